/-! between and span, by the reference: the walk -/
theorem nar_0 : vp_nar .boolean (nI 0) = nI 0 := by first | rfl | decide
theorem nar_1 : vp_nar .boolean (nI 1) = nI 1 := by first | rfl | decide
section Spn9
variable {CM : HX → St → Prop} {X X' : HX} {Y Y' : HY} {s : St} {r : Ly} {Q : Qt}
theorem X9_between_s {p q t : Int32} (h : Mw CM X Y s) (k : ∀ X' Y' res, ScM X X' Y Y' → Mw CM X' Y' s → ansM cdG (aBetween s p q t) (X' 0 0) res → Q res (LX9 ++ r) X' Y') : tX9_between [.ref 0, .int p, .int q, .int t] (LX9 ++ r) X Y Q := by
  have g9 := h.si.1
  have sc : ∀ v, ScM X (up2 X 0 0 v) Y Y := fun v => .up (by decide)
  have bad : ¬ (isG s p ∧ isG s q ∧ isG s t) → ∀ res, (∃ x, res = rI x) → Q res (LX9 ++ r) (up2 X 0 0 (nI 1)) Y := fun n res e => k _ _ _ (sc _) (h.sc (sc _)) (by
    unfold aBetween
    rw [cif_n n]
    exact ⟨up2_same, e⟩)
  apply tX9_between_i
  refine Q9_guest h (fun z hz => cK1_mk ⟨fun q1 => ?_, fun q1 => Q9_guest h (fun y hy => cK1_mk ⟨fun q2 => ?_, fun q2 => Q9_guest h (fun x hx => cK1_mk ⟨fun q3 => ?_, fun q3 => ?_⟩)⟩)⟩)
  · rw [up2_same]
    exact ⟨fun y => absurd y (by decide), fun _ => ⟨(by first | exact Or.inl rfl | exact Or.inr rfl | exact Or.inl trivial | exact Or.inr trivial), bad (fun y => by rw [hz.mpr y.1] at q1; exact absurd q1 (by decide)) _ ⟨_, rfl⟩⟩⟩
  · rw [up2_same]
    exact ⟨fun y => absurd y (by decide), fun _ => ⟨(by first | exact Or.inl rfl | exact Or.inr rfl | exact Or.inl trivial | exact Or.inr trivial), bad (fun y => by rw [hy.mpr y.2.1] at q2; exact absurd q2 (by decide)) _ ⟨_, rfl⟩⟩⟩
  · have hp := hz.mp (z11 q1)
    have hq := hy.mp (z11 q2)
    have ht := hx.mp (z11 q3)
    obtain ⟨u, hu, rfl⟩ := isG_c hp
    obtain ⟨v, hv, rfl⟩ := isG_c hq
    obtain ⟨w, hw, rfl⟩ := isG_c ht
    refine Q9_ready h (fun hl X1 Y1 sc1 e1 h1 n1 m1 w1 => cK1_mk ?_) (fun hl X1 Y1 sc1 e1 h1 n1 => cK1_mk ?_)
    · have h9 := lay_9 h.si hl
      refine ⟨fun _ => ?_, fun y => absurd (by decide) y⟩
      rw [up2_same]
      refine ⟨fun _ => ?_, fun y => absurd (by decide) y⟩
      have m0 : MKo (up2 X1 0 0 (nI 0)) s := m1.up (by omega) (by omega) (by omega) (by omega)
      have n0 : NV (up2 X1 0 0 (nI 0)) (Ms s) := fun i hi => by rw [up2_row (by omega)]; exact n1 i hi
      have h0 : Mw CM (up2 X1 0 0 (nI 0)) Y1 s := h1.sc (.up (by decide))
      have s0 : ScM X (up2 X1 0 0 (nI 0)) Y Y1 := sc1.trans (.up (by decide))
      have e0 : up2 X1 0 0 (nI 0) 0 0 = nI 0 := up2_same
      revert m0 n0 h0 s0 e0
      generalize up2 X1 0 0 (nI 0) = Z
      intro m0 n0 h0 s0 e0
      have no : ¬ btwQ s u v w → hX9_between_95 Q r Z Y1 := fun n => by
        apply hX9_between_95_i
        refine ⟨(by first | exact Or.inl rfl | exact Or.inr rfl | exact Or.inl trivial | exact Or.inr trivial), k _ _ _ s0 h0 ?_⟩
        unfold aBetween
        rw [cif_y (And.intro hp (And.intro hq ht)), cif_y hl, m_clamp (by omega), m_clamp (by omega), m_clamp (by omega)]
        unfold iB
        rw [if_neg n]
        exact ⟨e0, rfl⟩
      refine ⟨fun y => no (fun n => n.1.1 ((m_eq (by omega) (by omega)).mp y)), fun d1 => ⟨fun y => no (fun n => n.1.2.2.1 ((m_eq (by omega) (by omega)).mp y)), fun d2 => ⟨fun y => no (fun n => n.1.2.1 ((m_eq (by omega) (by omega)).mp y)), fun d3 => ?_⟩⟩⟩
      refine X9_met_s n0 (by omega) (by omega) (fun z4 hz4 => cK1_mk ⟨fun y => no (fun n => n.1.2.2.2.1 (hz4.mp (z11 y))), fun y4 => ?_⟩)
      refine X9_met_s n0 (by omega) (by omega) (fun z5 hz5 => cK1_mk ⟨fun y => no (fun n => n.1.2.2.2.2.2 (hz5.mp (z11 y))), fun y5 => ?_⟩)
      refine X9_met_s n0 (by omega) (by omega) (fun z6 hz6 => cK1_mk ⟨fun y6 => ?_, fun y => no (fun n => n.1.2.2.2.2.1 (hz6.mp (z11 y)))⟩)
      have c1 : u ≠ v := fun e => d1 (by rw [e])
      have c2 : u ≠ w := fun e => d2 (by rw [e])
      have c3 : v ≠ w := fun e => d3 (by rw [e])
      have c4 : ¬ Eo (Ms s) u v := fun n => y4 (by rw [hz4.mpr n]; decide)
      have c5 : ¬ Eo (Ms s) u w := fun n => y5 (by rw [hz5.mpr n]; decide)
      have c6 : ¬ Eo (Ms s) v w := fun n => by rw [hz6.mpr n] at y6; exact absurd y6 (by decide)
      have fz : ∀ c, c ≠ 0 → up2 (up2 (up2 Z 0 25 (nI u)) 0 26 (nI v)) 0 27 (nI w) c = Z c := fun c q => by rw [up2_row q, up2_row q, up2_row q]
      have fi : ∀ i, i ≠ 25 → i ≠ 26 → i ≠ 27 → up2 (up2 (up2 Z 0 25 (nI u)) 0 26 (nI v)) 0 27 (nI w) 0 i = Z 0 i := fun i q1 q2 q3 => by rw [up2_idx q3, up2_idx q2, up2_idx q1]
      have f25 : up2 (up2 (up2 Z 0 25 (nI u)) 0 26 (nI v)) 0 27 (nI w) 0 25 = nI u := by rw [up2_idx (by omega), up2_idx (by omega), up2_same]
      have f26 : up2 (up2 (up2 Z 0 25 (nI u)) 0 26 (nI v)) 0 27 (nI w) 0 26 = nI v := by rw [up2_idx (by omega), up2_same]
      have f27 : up2 (up2 (up2 Z 0 25 (nI u)) 0 26 (nI v)) 0 27 (nI w) 0 27 = nI w := up2_same
      revert fz fi f25 f26 f27
      generalize up2 (up2 (up2 Z 0 25 (nI u)) 0 26 (nI v)) 0 27 (nI w) = Z1
      intro fz fi f25 f26 f27
      have sc2 : ScM Z Z1 Y1 Y1 := .of (fun c hc => fz c (fun e => by subst e; simp at hc)) (fun _ _ => Eq.refl _) (fun i hi => fi i (fun e => by subst e; simp at hi) (fun e => by subst e; simp at hi) (fun e => by subst e; simp at hi))
      obtain ⟨ma, mb, mc, -⟩ := m0
      refine ⟨(by first | decide | (simp (disch := omega) only [m_0, m_L0, m_lt, m_le, m_eq, m_neg, m_in, m_clamp, m_add, m_sub, m_pred, m_mul, m_l, m_i, m_Land, m_Lor, m_and, m_or, m_xor, m_Landn, m_andn, m_LshlP, m_shl, m_LbitP, m_bit, m_cmp0P, m_Lb0, m_Lb1, m_b0, m_b1, Nat.one_mul]; omega) | simp (disch := omega) only [m_0, m_L0, m_lt, m_le, m_eq, m_neg, m_in, m_clamp, m_add, m_sub, m_pred, m_mul, m_l, m_i, m_Land, m_Lor, m_and, m_or, m_xor, m_Landn, m_andn, m_LshlP, m_shl, m_LbitP, m_bit, m_cmp0P, m_Lb0, m_Lb1, m_b0, m_b1, Nat.one_mul]), ?_⟩
      refine X9_count_s (m := sm s) (n := sG s) (R := rwF (Ms s) (sG s)) (L := []) (t := some (u, v, w)) (by rw [fi 16 (by omega) (by omega) (by omega)]; exact ma.2.1) h9 (by unfold RwV at mb ⊢; rw [fi 18 (by omega) (by omega) (by omega), fz 10 (by omega)]; exact mb) (by unfold PrV at mc ⊢; rw [fi 24 (by omega) (by omega) (by omega), fz 14 (by omega), fz 15 (by omega)]; exact mc) ⟨f25, f26, f27, hu, hv, hw⟩ (fun Y3 g3 w3 => cK2_mk ?_)
      have sc4 : ScM Z1 Z1 Y1 Y3 := .cellY (by decide) g3
      have sc5 : ScM Z1 (up2 Z1 0 25 (-1)) Y3 Y3 := .up (by decide)
      have kk := fun x => k (up2 Z1 0 25 (-1)) Y3 (rI x) (((s0.trans sc2).trans sc4).trans sc5) (((h0.sc sc2).sc sc4).sc sc5)
      unfold aBetween at kk
      rw [cif_y (And.intro hp (And.intro hq ht)), cif_y hl, m_clamp (by omega), m_clamp (by omega), m_clamp (by omega), up2_idx (by omega), fi 0 (by omega) (by omega) (by omega), e0] at kk
      have le : ∀ c k, c < 2 ^ sm s → k < sm s → (mayN (rwF (Ms s) (sG s)) (sG s) [] (some (u, v, w))) c k → mayQ s c k := fun c k _ _ q => by
        rw [mayN_tri h9] at q
        exact q.1
      have same := wy_same le
      have s1 : wy (sm s) (mayN (rwF (Ms s) (sG s)) (sG s) [] (some (u, v, w))) 0 = wy (sm s) (mayQ s) 0 ↔ btwQ s u v w := by
        rw [same]
        constructor
        · intro q
          refine ⟨⟨c1, c3, c2, c4, c6, c5⟩, fun o ho => ?_⟩
          have := q o ho
          rw [mayN_tri h9] at this
          exact (tri_iff h.si hu hv hw c1 c2 c3 c4 c5 c6 ho).mp this
        · rintro ⟨-, q⟩ o ho
          rw [mayN_tri h9]
          exact (tri_iff h.si hu hv hw c1 c2 c3 c4 c5 c6 ho).mpr (q o ho)
      have b1 := wy_bd9 (may := mayN (rwF (Ms s) (sG s)) (sG s) [] (some (u, v, w))) h9 (Nat.two_pow_pos _)
      have b2 := wy_bd9 (may := mayQ s) h9 (Nat.two_pow_pos _)
      revert b1 s1
      generalize wy (sm s) (mayN (rwF (Ms s) (sG s)) (sG s) [] (some (u, v, w))) 0 = w9
      intro s1 b1
      simp (disch := omega) only [m_0, m_L0, m_lt, m_le, m_eq, m_neg, m_in, m_clamp, m_add, m_sub, m_pred, m_mul, m_l, m_i, m_Land, m_Lor, m_and, m_or, m_xor, m_Landn, m_andn, m_LshlP, m_shl, m_LbitP, m_bit, m_cmp0P, m_Lb0, m_Lb1, m_b0, m_b1, Nat.one_mul, w1 0 (Nat.two_pow_pos _)]
      rw [m_Leq (by omega) (by omega)]
      unfold iB at kk
      refine ⟨fun q4 => ⟨(by first | exact Or.inl rfl | exact Or.inr rfl | exact Or.inl trivial | exact Or.inr trivial), ?_⟩, fun q4 => ⟨(by first | exact Or.inl rfl | exact Or.inr rfl | exact Or.inl trivial | exact Or.inr trivial), ?_⟩⟩
      · rw [if_neg (fun q => q4 (s1.mpr q))] at kk
        exact kk _ ⟨rfl, rfl⟩
      · rw [if_pos (s1.mp (Classical.not_not.mp q4))] at kk
        exact kk _ ⟨rfl, rfl⟩
    · refine ⟨fun y => absurd rfl y, fun _ => ?_⟩
      rw [up2_same]
      refine ⟨fun y => absurd y (by decide), fun _ => ⟨(by first | exact Or.inl rfl | exact Or.inr rfl | exact Or.inl trivial | exact Or.inr trivial), k _ _ _ (sc1.trans (.up (by decide))) (h1.sc (.up (by decide))) ?_⟩⟩
      unfold aBetween
      rw [cif_y (And.intro hp (And.intro hq ht)), cif_n hl]
      exact ⟨up2_same, _, rfl⟩
  · rw [up2_same]
    exact ⟨fun y => absurd y (by decide), fun _ => ⟨(by first | exact Or.inl rfl | exact Or.inr rfl | exact Or.inl trivial | exact Or.inr trivial), bad (fun y => by rw [hx.mpr y.2.2] at q3; exact absurd q3 (by decide)) _ ⟨_, rfl⟩⟩⟩
theorem X9_span_s {p l : Int32} (h : Mw CM X Y s) (k : ∀ X' Y' res, ScM X X' Y Y' → Mw CM X' Y' s → ansM cd1 (aSpan s p l) (X' 0 0) res → Q res (LX9 ++ r) X' Y') : tX9_span [.ref 0, .int p, .int l] (LX9 ++ r) X Y Q := by
  have g9 := h.si.1
  have bd := wyO_bd h.si
  have sc : ∀ v, ScM X (up2 X 0 0 v) Y Y := fun v => .up (by decide)
  apply tX9_span_i
  refine Q9_guest h (fun z hz => cK1_mk ⟨fun q1 => ?_, fun q1 => ?_⟩)
  · have hg := hz.mp (z11 q1)
    obtain ⟨g, hg', rfl⟩ := isG_c hg
    rw [up2_same]
    refine ⟨fun _ => Q9_obeys (h.sc (sc _)) (fun X1 Y1 sc1 e1 h1 n1 ob1 => cK2_mk ?_), fun y => absurd (by decide) y⟩
    have e0 : X1 0 0 = nI 0 := by rw [e1, up2_same]
    have fin : ∀ Z x, ScM X1 Z Y1 Y1 → Z 0 0 = nI 0 → x = cif (layO s) (zI (spanQ s g l)) (-1) → Q (.inl (some (.int x))) (LX9 ++ r) Z Y1 := fun Z x sc2 e2 ex => k _ _ _ (((sc _).trans sc1).trans sc2) (h1.sc sc2) (by
      unfold aSpan
      rw [cif_y hg, m_clamp (by omega)]
      exact ⟨e2, by rw [ex]⟩)
    by_cases hl : layO s
    · obtain ⟨ob, wo⟩ := ob1 hl.1
      have hw : wyO s ≠ 0 := fun e => wyO_z.mp e hl
      have h9 := lay_9 h.si hl.1
      have T9 := pw9 h9
      have T0 := Nat.two_pow_pos (sm s)
      simp (disch := omega) only [m_0, m_L0, m_lt, m_le, m_eq, m_neg, m_in, m_clamp, m_add, m_sub, m_pred, m_mul, m_l, m_i, m_Land, m_Lor, m_and, m_or, m_xor, m_Landn, m_andn, m_LshlP, m_shl, m_LbitP, m_bit, m_cmp0P, m_Lb0, m_Lb1, m_b0, m_b1, Nat.one_mul, ob.1.2.1]
      refine ⟨fun _ => ?_, fun y => absurd ((m_Leq (by omega) (by omega)).mp (Classical.not_not.mp y)) hw⟩
      have RIt : ∀ (Z : HX), (∀ c, c ≠ 12 → Z c = X1 c) → ScM X1 Z Y1 Y1 ∧ Z 0 16 = nI (sm s) ∧ RwV Z (sG s) (rwF (Ms s) (sG s)) ∧ PrV Z (sG s) (ahL s) ∧ TrV Z (sG s) none := fun Z fz => by
        obtain ⟨a, b, c, d⟩ := ob
        refine ⟨.cell (by decide) fz, by rw [fz 0 (by omega)]; exact a.2.1, ?_, ?_, ?_⟩
        · unfold RwV at b ⊢; rw [fz 0 (by omega), fz 10 (by omega)]; exact b
        · unfold PrV at c ⊢; rw [fz 0 (by omega), fz 14 (by omega), fz 15 (by omega)]; exact c
        · show Z 0 25 = -1; rw [fz 0 (by omega)]; exact d
      let RI : HX → Nat → Nat → Prop := fun Z c i => ∀ d, d < 2 ^ sm s → (Z 12 d = nI 0 ∨ Z 12 d = nI 1) ∧ (Z 12 d = nI 1 ↔ d = 0 ∨ dnA (sm s) (mayO s) rchF c i d)
      let FF : Nat → Nat → Nat → Prop := fdF (rwM (Ms s) (sG s)) g
      have H : ∀ n c Z z, c + n = 2 ^ sm s - 1 → (∀ c, c ≠ 12 → Z c = X1 c) → RI Z c 0 → bW l (dnA (sm s) (mayO s) FF c 0) z → hX9_span_82 Q r (nI g) l (nI (2 ^ sm s - 1)) (zI z) (nI c) Z Y1 := by
        intro n
        induction n with
        | zero =>
          intro c Z z hc fz _ hb
          apply hX9_span_82_i
          simp (disch := omega) only [m_0, m_L0, m_lt, m_le, m_eq, m_neg, m_in, m_clamp, m_add, m_sub, m_pred, m_mul, m_l, m_i, m_Land, m_Lor, m_and, m_or, m_xor, m_Landn, m_andn, m_LshlP, m_shl, m_LbitP, m_bit, m_cmp0P, m_Lb0, m_Lb1, m_b0, m_b1, Nat.one_mul]
          refine ⟨fun _ => fin Z (zI z) (RIt Z fz).1 (by rw [fz 0 (by omega)]; exact e0) ?_, fun y => by omega⟩
          have hz' := bW_eq hb (fun p => (fd_iff (g := g) (i := p) h9 (by omega : 2 ^ sm s - 1 ≤ c)).symm)
          rw [cif_y hl]
          unfold spanQ
          unfold bW at hz'
          by_cases q : l = 0
          · rw [if_pos q] at hz' ⊢
            have z1 : spL (sm s) (mayO s) (so s) g z := hz'
            rw [eps_uq z1 (fun _ hy => spL_uq hy z1)]
          · rw [if_neg q] at hz' ⊢
            have z1 : spH (sm s) (mayO s) (so s) g z := hz'
            rw [eps_uq z1 (fun _ hy => spH_uq hy z1)]
        | succ n ih =>
          intro c Z z hc fz hR hb
          have hcT : c < 2 ^ sm s := by omega
          have m0 : 0 < sm s := by
            rcases Nat.eq_zero_or_pos (sm s) with e | e
            · rw [e] at hc; omega
            · exact e
          apply hX9_span_82_i
          simp (disch := omega) only [m_0, m_L0, m_lt, m_le, m_eq, m_neg, m_in, m_clamp, m_add, m_sub, m_pred, m_mul, m_l, m_i, m_Land, m_Lor, m_and, m_or, m_xor, m_Landn, m_andn, m_LshlP, m_shl, m_LbitP, m_bit, m_cmp0P, m_Lb0, m_Lb1, m_b0, m_b1, Nat.one_mul]
          refine ⟨fun y => by omega, fun _ => ?_⟩
          by_cases hr : c = 0 ∨ dnA (sm s) (mayO s) rchF c 0 c
          · have rc := rch_rc hr
            have r0 : Z 12 c = nI 1 := (hR c hcT).2.mpr hr
            have G : ∀ q i Z z, i + q = sm s → (∀ c, c ≠ 12 → Z c = X1 c) → RI Z c i → bW l (dnA (sm s) (mayO s) FF c i) z → Z 12 c = nI 1 → hX9_span_91 Q r (nI g) l (nI (2 ^ sm s - 1)) (zI z) (nI c) (nI i) Z Y1 := by
              intro q
              induction q with
              | zero =>
                intro i Z z hi fz hR hb rz
                have nx : ∀ k', stE (sm s) (mayO s) c k' → k' < i := fun k' st => by have := (stE_b st).1; omega
                apply hX9_span_91_i
                simp (disch := omega) only [m_0, m_L0, m_lt, m_le, m_eq, m_neg, m_in, m_clamp, m_add, m_sub, m_pred, m_mul, m_l, m_i, m_Land, m_Lor, m_and, m_or, m_xor, m_Landn, m_andn, m_LshlP, m_shl, m_LbitP, m_bit, m_cmp0P, m_Lb0, m_Lb1, m_b0, m_b1, Nat.one_mul, (RIt Z fz).2.1]
                exact ⟨fun _ => ih (c + 1) Z z (by omega) fz (fun d hd => ⟨(hR d hd).1, (hR d hd).2.trans (or_congr Iff.rfl (dnA_next nx).symm)⟩) (bW_eq hb (fun p => dnA_next nx)), fun y => by omega⟩
              | succ q ihq =>
                intro i Z z hi fz hR hb rz
                obtain ⟨-, v16, vR, vP, vT⟩ := RIt Z fz
                have him : i < sm s := by omega
                have skip : ¬ stE (sm s) (mayO s) c i → hX9_span_91 Q r (nI g) l (nI (2 ^ sm s - 1)) (zI z) (nI c) (nI (i + 1)) Z Y1 := fun ns => ihq (i + 1) Z z (by omega) fz (fun d hd => ⟨(hR d hd).1, (hR d hd).2.trans (or_congr Iff.rfl (dnA_skip (fun y => ns y.1)).symm)⟩) (bW_eq hb (fun p => dnA_skip (fun y => ns y.1))) rz
                apply hX9_span_91_i
                simp (disch := omega) only [m_0, m_L0, m_lt, m_le, m_eq, m_neg, m_in, m_clamp, m_add, m_sub, m_pred, m_mul, m_l, m_i, m_Land, m_Lor, m_and, m_or, m_xor, m_Landn, m_andn, m_LshlP, m_shl, m_LbitP, m_bit, m_cmp0P, m_Lb0, m_Lb1, m_b0, m_b1, Nat.one_mul, v16, rz, nar_1]
                refine ⟨fun y => by omega, fun _ => ⟨by omega, fun y => (by first | exact absurd trivial y | exact absurd rfl y | exact absurd y (by omega) | exact absurd (by omega) y | exact absurd y (by decide) | exact absurd (by decide) y), fun _ => ⟨fun hb1 => skip (fun st => by rw [(stE_b st).2.2.1] at hb1; cases hb1), fun hb1 => X9_may_s vR vP vT (by omega) (by omega) (fun w hw => cK1_mk ⟨fun q3 => skip (fun st => ?_), fun q3 => ?_⟩)⟩⟩⟩
                · have := (stE_b st).2.2.2.1
                  rw [← mayN_eqO h9] at this
                  rw [hw.mpr this] at q3; exact absurd q3 (by decide)
                have hb0 : c.testBit i = false := by cases hq : c.testBit i; rfl; exact absurd hq hb1
                have hy : mayO s c i := by
                  have := hw.mp (z11 q3)
                  rw [mayN_eqO h9] at this; exact this
                have hlt := or_lt hcT him
                have hgt : c < c ||| 2 ^ i := Nat.lt_of_le_of_ne Nat.left_le_or (fun e3 => by
                  have := hb0
                  rw [e3, or_bit] at this; simp at this)
                have hbd := wy_bd9 (may := mayO s) h9 hlt
                simp (disch := omega) only [m_0, m_L0, m_lt, m_le, m_eq, m_neg, m_in, m_clamp, m_add, m_sub, m_pred, m_mul, m_l, m_i, m_Land, m_Lor, m_and, m_or, m_xor, m_Landn, m_andn, m_LshlP, m_shl, m_LbitP, m_bit, m_cmp0P, m_Lb0, m_Lb1, m_b0, m_b1, Nat.one_mul, wo _ hlt]
                refine ⟨by omega, fun h0 => ?_, fun h0 => skip (fun st => ?_)⟩
                · have h0 : wy (sm s) (mayO s) (c ||| 2 ^ i) ≠ 0 := fun e => h0 (by rw [e])
                  have st : stE (sm s) (mayO s) c i := live_e rc him hb0 hy (by omega)
                  have fz1 : ∀ c', c' ≠ 12 → up2 Z 12 (c ||| 2 ^ i) (nI 1) c' = X1 c' := fun c' q => by rw [up2_row q]; exact fz c' q
                  have R1 : RI (up2 Z 12 (c ||| 2 ^ i) (nI 1)) c (i + 1) := fun d hd => by
                    by_cases e : d = c ||| 2 ^ i
                    · subst e
                      rw [up2_same]
                      exact ⟨Or.inr rfl, fun _ => Or.inr ((dnA_add st).mpr (Or.inr rfl)), fun _ => rfl⟩
                    · rw [up2_idx e]
                      refine ⟨(hR d hd).1, (hR d hd).2.trans ⟨fun y => y.imp id (fun y => (dnA_add st).mpr (Or.inl y)), fun y => y.imp id (fun y => ?_)⟩⟩
                      rcases (dnA_add st).mp y with y | y
                      · exact y
                      · exact absurd y e
                  have rz1 : up2 Z 12 (c ||| 2 ^ i) (nI 1) 12 c = nI 1 := by rw [up2_idx (by omega)]; exact rz
                  revert fz1 R1 rz1
                  generalize up2 Z 12 (c ||| 2 ^ i) (nI 1) = Z1
                  intro fz1 R1 rz1
                  obtain ⟨-, v16', vR', -, -⟩ := RIt Z1 fz1
                  have rg := vR'.2.2 g hg'
                  have eR : rwF (Ms s) (sG s) = rwM (Ms s) (sG s) := rwF_eq h9
                  have skip1 : ¬ (¬ begP (rwM (Ms s) (sG s)) g c ∧ Bs (rwM (Ms s) (sG s) g) i) → hX9_span_91 Q r (nI g) l (nI (2 ^ sm s - 1)) (zI z) (nI c) (nI (i + 1)) Z1 Y1 := fun ns => ihq (i + 1) Z1 z (by omega) fz1 R1 (bW_eq hb (fun p => dnA_skip (fun y => ns ⟨y.2.1, y.2.2.1⟩))) rz1
                  refine ⟨by omega, X9_beg_s vR' hg' (by omega) (fun w2 hw2 => cK1_mk ⟨fun q5 => skip1 (fun y => y.1 ?_), fun q5 => ?_⟩)⟩
                  · rw [← eR]; exact hw2.mp (z11 q5)
                  have nb : ¬ begP (rwM (Ms s) (sG s)) g c := fun y => q5 (by rw [eR] at hw2; rw [hw2.mpr y]; decide)
                  simp (disch := omega) only [m_0, m_L0, m_lt, m_le, m_eq, m_neg, m_in, m_clamp, m_add, m_sub, m_pred, m_mul, m_l, m_i, m_Land, m_Lor, m_and, m_or, m_xor, m_Landn, m_andn, m_LshlP, m_shl, m_LbitP, m_bit, m_cmp0P, m_Lb0, m_Lb1, m_b0, m_b1, Nat.one_mul, rg.1]
                  refine ⟨by omega, fun q6 => ?_, fun q6 => skip1 (fun y => ?_)⟩
                  · have hbg : Bs (rwM (Ms s) (sG s) g) i := by rw [← eR]; exact nz_nz q6
                    have add : ∀ p, dnA (sm s) (mayO s) FF c (i + 1) p ↔ dnA (sm s) (mayO s) FF c i p ∨ p = cnt c := fun p => (dnA_add st).trans (or_congr Iff.rfl ⟨fun y => y.2.2, fun y => ⟨nb, hbg, y⟩⟩)
                    have c64 : cnt c ≤ 64 := cnt_le c
                    refine bc32 (by omega) (cK1_mk ?_)
                    have nx : ∀ p : Nat, bW l (dnA (sm s) (mayO s) FF c (i + 1)) p → hX9_span_91 Q r (nI g) l (nI (2 ^ sm s - 1)) (nI p) (nI c) (nI (i + 1)) Z1 Y1 := fun p hp => by
                      have := ihq (i + 1) Z1 p (by omega) fz1 R1 hp rz1
                      rw [m_zI] at this; exact this
                    rcases bW_cs hb with ⟨rfl, hn⟩ | ⟨p0, rfl, hp0⟩
                    · exact ⟨fun _ => nx _ (bW_1 hn add), fun y => absurd rfl y⟩
                    · have p64 : p0 ≤ 64 := by
                        obtain ⟨c', k', -, -, -, -, e⟩ := hp0
                        rw [e]; exact cnt_le _
                      obtain ⟨b1, b2⟩ := bW_2 hb add
                      rw [m_zI]
                      refine ⟨fun y => absurd y (nI_m1 (by omega)), fun _ => ⟨fun q => ?_, fun q => ?_⟩⟩
                      · have b1 := b1 q
                        rw [m_le (by omega) (by omega)]
                        exact ⟨fun y => by rw [if_pos y] at b1; exact nx _ b1, fun y => by rw [if_neg y] at b1; exact nx _ b1⟩
                      · have b2 := b2 q
                        rw [m_le (by omega) (by omega)]
                        exact ⟨fun y => by rw [if_pos y] at b2; exact nx _ b2, fun y => by rw [if_neg y] at b2; exact nx _ b2⟩
                  · have y2 := y.2
                    rw [← eR] at y2
                    exact absurd y2 (bsF.mpr (Classical.not_not.mp q6))
                · have h0 := Classical.not_not.mp h0
                  have := (stE_b st).2.2.2.2.1
                  rw [m_Leq (by omega) (by omega)] at h0
                  omega
            exact G (sm s) 0 Z z (Nat.zero_add _) fz hR hb r0
          · have r0 : Z 12 c = nI 0 := by
              rcases (hR c hcT).1 with e | e
              · exact e
              · exact absurd ((hR c hcT).2.mp e) hr
            have nx : ∀ k', stE (sm s) (mayO s) c k' → k' < 0 := fun k' st => absurd st (rch_no hr)
            apply hX9_span_91_i
            simp (disch := omega) only [m_0, m_L0, m_lt, m_le, m_eq, m_neg, m_in, m_clamp, m_add, m_sub, m_pred, m_mul, m_l, m_i, m_Land, m_Lor, m_and, m_or, m_xor, m_Landn, m_andn, m_LshlP, m_shl, m_LbitP, m_bit, m_cmp0P, m_Lb0, m_Lb1, m_b0, m_b1, Nat.one_mul, (RIt Z fz).2.1, r0]
            exact ⟨fun y => by omega, fun _ => ⟨by omega, fun _ => ih (c + 1) Z z (by omega) fz (fun d hd => ⟨(hR d hd).1, (hR d hd).2.trans (or_congr Iff.rfl (dnA_next nx).symm)⟩) (bW_eq hb (fun p => dnA_next nx)), fun y => (by first | exact absurd trivial y | exact absurd rfl y | exact absurd y (by omega) | exact absurd (by omega) y | exact absurd y (by decide) | exact absurd (by decide) y)⟩⟩
      have F : ∀ n j Z, j + n = 2 ^ sm s → 1 ≤ j → (∀ c, c ≠ 12 → Z c = X1 c) → (∀ d, 1 ≤ d → d < j → Z 12 d = nI 0) → hX9_span_49 Q r (nI g) l (nI (2 ^ sm s - 1)) (nI j) Z Y1 := by
        intro n
        induction n with
        | zero =>
          intro j Z hj _ fz hD
          apply hX9_span_49_i
          simp (disch := omega) only [m_0, m_L0, m_lt, m_le, m_eq, m_neg, m_in, m_clamp, m_add, m_sub, m_pred, m_mul, m_l, m_i, m_Land, m_Lor, m_and, m_or, m_xor, m_Landn, m_andn, m_LshlP, m_shl, m_LbitP, m_bit, m_cmp0P, m_Lb0, m_Lb1, m_b0, m_b1, Nat.one_mul, nar_1]
          refine ⟨fun _ => ⟨by omega, ?_⟩, fun y => by omega⟩
          have em : zI (-1) = (-1 : Int32) := by decide
          have := H (2 ^ sm s - 1) 0 (up2 Z 12 0 (nI 1)) (-1) (Nat.zero_add _) (fun c q => by rw [up2_row q]; exact fz c q) (fun d hd => ?_) ?_
          · rw [em] at this; exact this
          · have no : ¬ dnA (sm s) (mayO s) rchF 0 0 d := fun ⟨c', k', q, _⟩ => by omega
            by_cases e : d = 0
            · subst e
              rw [up2_same]
              exact ⟨Or.inr rfl, fun _ => Or.inl rfl, fun _ => rfl⟩
            · rw [up2_idx e, hD d (by omega) (by omega)]
              exact ⟨Or.inl rfl, fun y => absurd y nI01, fun y => y.elim (fun y => absurd y e) (fun y => absurd y no)⟩
          · have no : ∀ p, ¬ dnA (sm s) (mayO s) FF 0 0 p := fun p ⟨c', k', q, _⟩ => by omega
            unfold bW
            split
            · exact Or.inl ⟨rfl, no⟩
            · exact Or.inl ⟨rfl, no⟩
        | succ n ih =>
          intro j Z hj hj1 fz hD
          apply hX9_span_49_i
          simp (disch := omega) only [m_0, m_L0, m_lt, m_le, m_eq, m_neg, m_in, m_clamp, m_add, m_sub, m_pred, m_mul, m_l, m_i, m_Land, m_Lor, m_and, m_or, m_xor, m_Landn, m_andn, m_LshlP, m_shl, m_LbitP, m_bit, m_cmp0P, m_Lb0, m_Lb1, m_b0, m_b1, Nat.one_mul, nar_0]
          refine ⟨fun y => by omega, fun _ => ⟨by omega, ih (j + 1) _ (by omega) (by omega) (fun c q => by rw [up2_row q]; exact fz c q) (fun d h1 h2 => ?_)⟩⟩
          by_cases e : d = j
          · subst e; exact up2_same
          · rw [up2_idx e]; exact hD d h1 (by omega)
      exact F (2 ^ sm s - 1) 1 X1 (by omega) (by omega) (fun _ _ => rfl) (fun d h1 h2 => by omega)
    · have e : wyO s = 0 := wyO_z.mpr hl
      rw [e]
      exact ⟨fun y => absurd (by decide) y, fun _ => fin X1 _ ScM.rfl e0 (by rw [cif_n hl])⟩
  · have hg : ¬ isG s p := fun y => q1 (by rw [hz.mpr y]; decide)
    rw [up2_same]
    refine ⟨fun y => absurd y (by decide), fun _ => k _ _ _ (sc _) (h.sc (sc _)) ?_⟩
    unfold aSpan
    rw [cif_n hg]
    exact ⟨up2_same, _, rfl⟩
end Spn9
