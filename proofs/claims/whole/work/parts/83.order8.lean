/-! orders that were told, by the class -/
section Ord8
variable {CK S1 S2 : HX → St → Prop} {X X' : HX} {Y Y' : HY} {s : St} {b : Bool} {Q : Qt}
/-- the cells of obeying alone have changed -/
def Sc49 (b : Bool) (X X' : HX) (Y Y' : HY) : Prop := (∀ c, c < nC8 b → (c < 49 ∨ 56 < c) → X' c = X c) ∧ (∀ c, c < nC8 b → Y' c = Y c) ∧ X' 49 4 = X 49 4
theorem Sc49.trans {X1 X2 : HX} {Y1 Y2 : HY} (h : Sc49 b X X1 Y Y1) (k : Sc49 b X1 X2 Y1 Y2) : Sc49 b X X2 Y Y2 := ⟨fun c hc hd => (k.1 c hc hd).trans (h.1 c hc hd), fun c hc => (k.2.1 c hc).trans (h.2.1 c hc), k.2.2.trans h.2.2⟩
theorem Eq8.sc49 (h : Eq8 b X X' Y Y') : Sc49 b X X' Y Y' := by
  have := nC8_79 b
  exact ⟨fun c hc _ => (h c hc).1, fun c hc => (h c hc).2, by rw [(h 49 (by omega)).1]⟩
theorem Qw.c49 (h : Qw CK S1 S2 X Y s) (ex : ∀ c, c < 79 → (c < 49 ∨ 56 < c) → X' c = X c) (ey : ∀ c, c < 79 → Y' c = Y c) (f : Fl X' 49 4 (X' 41 4 = nI 1 ∧ OKo X' s)) : Qw CK S1 S2 X' Y' s := by
  obtain ⟨⟨hC, h1, h2⟩, q1, q2, q3, q4, q5, q6, q7, q8, q9, q10, q11⟩ := h
  have xx : ∀ c i, c < 79 → (c < 49 ∨ 56 < c) → X' c i = X c i := fun c i hc hd => by rw [ex c hc hd]
  refine ⟨⟨hC, h1, h2⟩, q1, q2.of (fun c z1 z2 => ex c (by omega) (by omega)), by rw [ey 9 (by omega)]; exact q3, ⟨by rw [xx 33 2 (by omega) (by omega)]; exact q4.1, by rw [xx 37 2 (by omega) (by omega)]; exact q4.2⟩, ?_, ?_, ?_, f, ?_, ?_, ?_⟩
  · intro k hk
    have : sb S41 X' 4 = sb S41 X 4 := ex 45 (by omega) (by omega)
    rw [this]; exact q5 k hk
  · exact q6.mono (xx _ _ (by omega) (by omega)) (fun z => z.of (xx _ _ (by omega) (by omega)) (ex _ (by omega) (by omega)) (ex _ (by omega) (by omega)) (ex _ (by omega) (by omega)) (ey _ (by omega)))
  · exact q7.mono (xx _ _ (by omega) (by omega)) (fun z => ⟨by rw [xx 25 3 (by omega) (by omega)]; exact z.1, z.2.of (xx _ _ (by omega) (by omega)) (fun c z1 z2 => ex c (by omega) (by omega))⟩)
  · exact q9.mono (xx _ _ (by omega) (by omega)) (fun z => ⟨by rw [xx 41 4 (by omega) (by omega)]; exact z.1, hC X X' s (fun c z1 z2 => ex c (by omega) (by omega)) z.2⟩)
  · exact q10.mono (xx _ _ (by omega) (by omega)) (fun z => h1 X X' s (fun c z1 z2 => ex c (by omega) (by omega)) z)
  · exact q11.mono (xx _ _ (by omega) (by omega)) (fun z => h2 X X' s (fun c z1 z2 => ex c (by omega) (by omega)) z)
theorem Q8_orders (h : Qw CK S1 S2 X Y s) (k : ∀ X' Y', Kp b X X' Y Y' → Qw CK S1 S2 X' Y' s → PKo X' Y' s → LKo X' s → OKo X' s → Q (.inl none) (LX8 b) X' Y') : tX8_settleOrders b [.ref 0] (LX8 b) X Y Q := by
  have n79 := nC8_79 b
  have ln : (LX8 b).length = nC8 b := rfl
  have g9 := h.si.1
  have n40 := h.si.2.1
  apply tX8_settleOrders_i
  refine ⟨fun h0 => ?_, fun h0 => ?_⟩
  · have h0 : X 49 4 = nI 0 := h0
    refine X8_lays_s h.1.1 h.1.2.1 h.1.2.2 h.2 (fun X1 Y1 kp1 fr1 hv1 e4 pk1 lk1 => cK0_mk ?_)
    have h1 : Qw CK S1 S2 X1 Y1 s := ⟨h.1, hv1⟩
    have e0 : X1 49 4 = nI 0 := by rw [(fr1 49 (by omega) (by omega)).1]; exact h0
    refine X3_take_s (r := []) (m := sm s) (mo := so s) lk1.1.1.1 lk1.1.1.2.1 lk1.1.1.2.2 (fun X2 f2 g2 v2 p2 => cS0_mk ?_)
    rw [ln]
    have fa : ∀ c, c < nC8 b → (c < 49 ∨ 56 < c) → mg [49, 50, 51, 52, 53, 54, 55, 56, 41, 42, 43, 44, 45, 46, 47, 48] (nC8 b) X1 X2 c = X1 c := fun c hc hd => mg_fr (ch := [0, 1, 4]) (fun i _ hj => f2 i (fun e => hj (by simp [e])) (fun e => hj (by simp [e])) (fun e => hj (by simp [e]))) hc (by simp; omega)
    have ya : ∀ c, c < nC8 b → mg [49, 50, 51, 52, 53, 54, 55, 56, 41, 42, 43, 44, 45, 46, 47, 48] (nC8 b) Y1 (sb [49, 50, 51, 52, 53, 54, 55, 56, 41, 42, 43, 44, 45, 46, 47, 48] Y1) c = Y1 c := fun c hc => mg_sb hc
    have a0 : mg [49, 50, 51, 52, 53, 54, 55, 56, 41, 42, 43, 44, 45, 46, 47, 48] (nC8 b) X1 X2 49 = X2 0 := mg_in 0 (by omega) rfl rfl
    have a1 : mg [49, 50, 51, 52, 53, 54, 55, 56, 41, 42, 43, 44, 45, 46, 47, 48] (nC8 b) X1 X2 50 = X2 1 := mg_in 1 (by omega) rfl rfl
    have a4 : mg [49, 50, 51, 52, 53, 54, 55, 56, 41, 42, 43, 44, 45, 46, 47, 48] (nC8 b) X1 X2 53 = X2 4 := mg_in 4 (by omega) rfl rfl
    revert fa ya a0 a1 a4
    generalize mg [49, 50, 51, 52, 53, 54, 55, 56, 41, 42, 43, 44, 45, 46, 47, 48] (nC8 b) X1 X2 = Xa
    generalize mg [49, 50, 51, 52, 53, 54, 55, 56, 41, 42, 43, 44, 45, 46, 47, 48] (nC8 b) Y1 (sb [49, 50, 51, 52, 53, 54, 55, 56, 41, 42, 43, 44, 45, 46, 47, 48] Y1) = Ya
    intro fa ya a0 a1 a4
    have sca : Sc49 b X1 Xa Y1 Ya := ⟨fa, ya, by rw [a0, g2 4 (by omega)]; rfl⟩
    have va : LV (sb S49 Xa) (sm s) (so s) := by
      refine ⟨v2.1, ?_, fun t ht => ?_⟩
      · show Xa 49 3 = _; rw [a0]; exact v2.2.1
      · show Xa 50 t = _ ∧ _; rw [a1]; exact v2.2.2 t ht
    have pa : PV (sb S49 Xa) P0 := fun t ht => by
      show Xa 53 t = _ ∧ _
      rw [a4]; exact p2 t ht
    -- what is still to be told
    have view : ∀ Z W, Sc49 b X1 Z Y1 W → Qw CK S1 S2 Z W s ∧ PKo Z W s ∧ LKo Z s := fun Z W sc => by
      refine ⟨h1.c49 (fun c hc hd => sc.1 c (by omega) hd) (fun c hc => sc.2.1 c (by omega)) (Or.inl (by rw [sc.2.2]; exact e0)), pk1.of (by rw [sc.1 25 (by omega) (by omega)]) (sc.1 26 (by omega) (by omega)) (sc.1 27 (by omega) (by omega)) (sc.1 28 (by omega) (by omega)) (sc.2.1 34 (by omega)), lk1.of (by rw [sc.1 41 (by omega) (by omega)]) (fun c z1 z2 => sc.1 c (by omega) (by omega))⟩
    let step : (Nat → Nat) → Nat × Nat → Nat → Nat := fun P p => ordP (so s) P (sm s) p.1 p.2
    have H : ∀ n a Z W P, a + n = sG s → Sc49 b X1 Z Y1 W → LV (sb S49 Z) (sm s) (so s) → PV (sb S49 Z) P → ((remL (sG s) n).filterMap (ahF s)).foldl step P = ahP s → hX8_settleOrders_28 Q b (nI a) Z W := by
      intro n
      induction n with
      | zero =>
        intro a Z W P ha sc v p hP
        obtain ⟨hz, pz, lz⟩ := view Z W sc
        simp only [remL, List.filterMap_nil, List.foldl_nil] at hP
        subst hP
        apply hX8_settleOrders_28_i
        rw [hz.bv.1]
        simp (disch := omega) only [m_0, m_L0, m_lt, m_le, m_eq, m_neg, m_in, m_clamp, m_add, m_sub, m_pred, m_mul, m_l, m_i, m_Land, m_Lor, m_and, m_or, m_xor, m_Landn, m_andn, m_LshlP, m_shl, m_LbitP, m_bit, m_cmp0P, m_Lb0, m_Lb1, m_b0, m_b1, Nat.one_mul]
        refine ⟨fun _ => X3_find_s (r := []) v p (fun X4 f4 c4 => cS0_mk ⟨(by first | exact Or.inl rfl | exact Or.inr rfl | exact Or.inl trivial | exact Or.inr trivial), ?_⟩), fun h => by omega⟩
        rw [ln]
        have fb : ∀ c, c < nC8 b → c ∉ [54, 55, 56] → mg S49 (nC8 b) Z X4 c = Z c := fun c hc hd => mg_fr (ch := [5, 6, 7]) (fun i _ hj => f4 i (fun e => hj (by simp [e])) (fun e => hj (by simp [e])) (fun e => hj (by simp [e]))) hc (by simpa using hd)
        have yb : ∀ c, c < nC8 b → mg S49 (nC8 b) W (sb S49 W) c = W c := fun c hc => mg_sb hc
        have c0 : mg S49 (nC8 b) Z X4 49 = X4 0 := mg_in 0 (by omega) rfl rfl
        have cb : CV (sb S49 (mg S49 (nC8 b) Z X4)) (sm s) (so s) (ahP s) := CV_c c4 (by show mg S49 (nC8 b) Z X4 49 3 = _; rw [c0]) (show mg S49 (nC8 b) Z X4 50 = X4 1 from mg_in 1 (by omega) rfl rfl) (show mg S49 (nC8 b) Z X4 53 = X4 4 from mg_in 4 (by omega) rfl rfl) (show mg S49 (nC8 b) Z X4 54 = X4 5 from mg_in 5 (by omega) rfl rfl) (show mg S49 (nC8 b) Z X4 56 = X4 7 from mg_in 7 (by omega) rfl rfl)
        clear c0
        revert fb yb cb
        generalize mg S49 (nC8 b) Z X4 = Xb
        generalize mg S49 (nC8 b) W (sb S49 W) = Yb
        intro fb yb cb
        have fx : ∀ c, c < nC8 b → (c < 49 ∨ 56 < c) → up2 Xb 49 4 (nI 1) c = Z c := fun c hc hd => by rw [up2_row (by omega), fb c hc (by simp; omega)]
        have ok : OKo (up2 Xb 49 4 (nI 1)) s := CV_c cb (up2_idx (by omega)) (up2_row (show (50 : Nat) ≠ 49 by omega)) (up2_row (show (53 : Nat) ≠ 49 by omega)) (up2_row (show (54 : Nat) ≠ 49 by omega)) (up2_row (show (56 : Nat) ≠ 49 by omega))
        refine k _ _ (kp1.trans (fun c hc hd => ⟨(fx c hc (by omega)).trans (sc.1 c hc (by omega)), (yb c hc).trans (sc.2.1 c hc)⟩)) (hz.c49 (fun c hc hd => fx c (by omega) hd) (fun c hc => yb c (by omega)) (Or.inr ⟨up2_same, ?_, ok⟩)) (pz.of (by rw [fx 25 (by omega) (by omega)]) (fx 26 (by omega) (by omega)) (fx 27 (by omega) (by omega)) (fx 28 (by omega) (by omega)) (yb 34 (by omega))) (lz.of (by rw [fx 41 (by omega) (by omega)]) (fun c z1 z2 => fx c (by omega) (by omega))) ok
        rw [fx 41 (by omega) (by omega), sc.1 41 (by omega) (by omega)]; exact e4
      | succ n ih =>
        intro a Z W P ha sc v p hP
        obtain ⟨hz, pz, lz⟩ := view Z W sc
        have ea : sG s - (n + 1) = a := by omega
        have eb : sG s - n = a + 1 := by omega
        rw [remL, ea, eb, List.filterMap_append, List.foldl_append] at hP
        have G : ∀ m c Z W P, c + m = sG s → a < c → Sc49 b X1 Z Y1 W → LV (sb S49 Z) (sm s) (so s) → PV (sb S49 Z) P → ((remL (sG s) n).filterMap (ahF s)).foldl step (((rowL a c m).filterMap (ahF s)).foldl step P) = ahP s → hX8_settleOrders_43 Q b (nI a) (nI c) Z W := by
          intro m
          induction m with
          | zero =>
            intro c Z W P hc hac sc v p hP
            obtain ⟨hz, pz, lz⟩ := view Z W sc
            simp only [rowL, List.filterMap_nil, List.foldl_nil] at hP
            apply hX8_settleOrders_43_i
            rw [hz.bv.1]
            simp (disch := omega) only [m_0, m_L0, m_lt, m_le, m_eq, m_neg, m_in, m_clamp, m_add, m_sub, m_pred, m_mul, m_l, m_i, m_Land, m_Lor, m_and, m_or, m_xor, m_Landn, m_andn, m_LshlP, m_shl, m_LbitP, m_bit, m_cmp0P, m_Lb0, m_Lb1, m_b0, m_b1, Nat.one_mul]
            exact ⟨fun _ => ih (a + 1) Z W P (by omega) sc v p hP, fun h => by omega⟩
          | succ m ihm =>
            intro c Z W P hc hac sc v p hP
            obtain ⟨hz, pz, lz⟩ := view Z W sc
            rw [rowL] at hP
            apply hX8_settleOrders_43_i
            rw [hz.bv.1]
            simp (disch := omega) only [m_0, m_L0, m_lt, m_le, m_eq, m_neg, m_in, m_clamp, m_add, m_sub, m_pred, m_mul, m_l, m_i, m_Land, m_Lor, m_and, m_or, m_xor, m_Landn, m_andn, m_LshlP, m_shl, m_LbitP, m_bit, m_cmp0P, m_Lb0, m_Lb1, m_b0, m_b1, Nat.one_mul]
            refine ⟨fun h => by omega, fun _ => ?_⟩
            apply tX5_rulerOf_i
            simp (disch := omega) only [m_0, m_L0, m_lt, m_le, m_eq, m_neg, m_in, m_clamp, m_add, m_sub, m_pred, m_mul, m_l, m_i, m_Land, m_Lor, m_and, m_or, m_xor, m_Landn, m_andn, m_LshlP, m_shl, m_LbitP, m_bit, m_cmp0P, m_Lb0, m_Lb1, m_b0, m_b1, Nat.one_mul]
            have er : sb [25, 26, 27, 28] Z 3 (9 * a + c) = oI (rul s (sFo s) a c (sN s)) := pz.1 a c (by omega) (by omega)
            rw [er]
            have eq := Eq8.mg (b := b) (X := Z) (Y := W) [25, 26, 27, 28]
            have sc' := sc.trans eq.sc49
            have v' : LV (sb S49 (mg [25, 26, 27, 28] (LX8 b).length Z (sb [25, 26, 27, 28] Z))) (sm s) (so s) := by
              refine ⟨v.1, ?_, fun t ht => ?_⟩
              · show (mg [25, 26, 27, 28] (LX8 b).length Z (sb [25, 26, 27, 28] Z)) 49 3 = _; rw [(eq 49 (by omega)).1]; exact v.2.1
              · show (mg [25, 26, 27, 28] (LX8 b).length Z (sb [25, 26, 27, 28] Z)) 50 t = _ ∧ _; rw [(eq 50 (by omega)).1]; exact v.2.2 t ht
            have p' : PV (sb S49 (mg [25, 26, 27, 28] (LX8 b).length Z (sb [25, 26, 27, 28] Z))) P := fun t ht => by
              show (mg [25, 26, 27, 28] (LX8 b).length Z (sb [25, 26, 27, 28] Z)) 53 t = _ ∧ _; rw [(eq 53 (by omega)).1]; exact p t ht
            obtain ⟨hz', pz', lz'⟩ := view _ _ sc'
            cases hr : rul s (sFo s) a c (sN s) with
            | none =>
              have ef : ahF s (a, c) = none := by unfold ahF; simp only [hr]
              rw [List.filterMap_cons_none ef] at hP
              exact ⟨by omega, cS1_mk ⟨fun _ => ihm (c + 1) _ _ P (by omega) (by omega) sc' v' p' hP, fun q => absurd rfl q⟩⟩
            | some t =>
              have ht := rul_lt hr
              have htm := h.si.2.2.1 t ht.1
              rw [oI_some]
              refine ⟨by omega, cS1_mk ⟨fun q => absurd q (nI_m1 (by omega)), fun _ => ?_⟩⟩
              revert sc' v' p' hz'
              generalize mg [25, 26, 27, 28] (LX8 b).length Z (sb [25, 26, 27, 28] Z) = Z'
              generalize mg [25, 26, 27, 28] (LX8 b).length W (sb [25, 26, 27, 28] W) = W'
              intro sc' v' p' hz'
              have et := hz'.bv.2.2.1 t ht.1
              simp (disch := omega) only [m_0, m_L0, m_lt, m_le, m_eq, m_neg, m_in, m_clamp, m_add, m_sub, m_pred, m_mul, m_l, m_i, m_Land, m_Lor, m_and, m_or, m_xor, m_Landn, m_andn, m_LshlP, m_shl, m_LbitP, m_bit, m_cmp0P, m_Lb0, m_Lb1, m_b0, m_b1, Nat.one_mul, et.1]
              refine ⟨by omega, fun q => ?_, fun q => ⟨by omega, by omega, ?_⟩⟩
              · have ef : ahF s (a, c) = none := by unfold ahF; simp only [hr]; rw [if_neg q]
                rw [List.filterMap_cons_none ef] at hP
                exact ihm (c + 1) Z' W' P (by omega) (by omega) sc' v' p' hP
              · have ef : ahF s (a, c) = some (sFi s t, sSe s t) := by unfold ahF; simp only [hr]; rw [if_pos (Classical.not_not.mp q)]
                rw [List.filterMap_cons_some ef, List.foldl_cons] at hP
                simp (disch := omega) only [m_0, m_L0, m_lt, m_le, m_eq, m_neg, m_in, m_clamp, m_add, m_sub, m_pred, m_mul, m_l, m_i, m_Land, m_Lor, m_and, m_or, m_xor, m_Landn, m_andn, m_LshlP, m_shl, m_LbitP, m_bit, m_cmp0P, m_Lb0, m_Lb1, m_b0, m_b1, Nat.one_mul, et.2.1, et.2.2.1]
                refine X3_order_s (r := []) v' p' (by omega) (by omega) (fun X5 f5 p5 => cS0_mk ?_)
                rw [ln]
                have fb : ∀ c, c < nC8 b → c ≠ 53 → mg S49 (nC8 b) Z' X5 c = Z' c := fun c hc hd => mg_fr (ch := [4]) (fun i _ hi => f5 i (fun e => hi (by simp [e]))) hc (by simpa using hd)
                have yb : ∀ c, c < nC8 b → mg S49 (nC8 b) W' (sb S49 W') c = W' c := fun c hc => mg_sb hc
                refine ihm (c + 1) _ _ _ (by omega) (by omega) (sc'.trans ⟨fun c hc hd => fb c hc (by omega), yb, by rw [fb 49 (by omega) (by omega)]⟩) ?_ (fun t ht => ?_) hP
                · refine ⟨v'.1, ?_, fun t ht => ?_⟩
                  · show (mg S49 (nC8 b) Z' X5) 49 3 = _; rw [fb 49 (by omega) (by omega)]; exact v'.2.1
                  · show (mg S49 (nC8 b) Z' X5) 50 t = _ ∧ _; rw [fb 50 (by omega) (by omega)]; exact v'.2.2 t ht
                · show mg S49 (nC8 b) Z' X5 53 t = _ ∧ _
                  rw [show mg S49 (nC8 b) Z' X5 53 = X5 4 from mg_in 4 (by omega) rfl rfl]
                  exact p5 t ht
        apply hX8_settleOrders_28_i
        rw [hz.bv.1]
        simp (disch := omega) only [m_0, m_L0, m_lt, m_le, m_eq, m_neg, m_in, m_clamp, m_add, m_sub, m_pred, m_mul, m_l, m_i, m_Land, m_Lor, m_and, m_or, m_xor, m_Landn, m_andn, m_LshlP, m_shl, m_LbitP, m_bit, m_cmp0P, m_Lb0, m_Lb1, m_b0, m_b1, Nat.one_mul]
        exact ⟨fun h => by omega, fun _ => G n (a + 1) Z W P (by omega) (by omega) sc v p hP⟩
    exact H _ 0 Xa Ya P0 (Nat.zero_add _) sca va pa rfl
  · have e1 : X 49 4 = nI 1 := by
      rcases h.2.2.2.2.2.2.2.2.1 with z | z
      · exact absurd z h0
      · exact z.1
    have o := Fl.get h.2.2.2.2.2.2.2.2.1 e1
    have l := Fl.get h.2.2.2.2.2.2.2.1 o.1
    exact k X Y Kp.rfl h (Fl.get h.2.2.2.2.2.2.1 l.1) l.2 o.2
theorem X8_obey_s (h : Qw CK S1 S2 X Y s) (k : ∀ X' Y', Kp b X X' Y Y' → Qw CK S1 S2 X' Y' s → Q (aObey s) (LX8 b) X' Y') : tX8_obey b [.ref 0] (LX8 b) X Y Q := by
  apply tX8_obey_i
  refine Q8_orders h (fun X1 Y1 kp hq pk lk ok => cK0_mk ?_)
  have e := Eq8.mg (b := b) (X := X1) (Y := Y1) S49
  refine X3_layings_s (r := []) ok (fun n hn n1 n2 => cS1_mk ?_)
  have k' := k _ _ (kp.trans e.kp) (hq.scr e.scr)
  unfold aObey at k'
  rw [m_l (by omega)]
  have en : n = cif (layQ s) (wy (sm s) (mayO s) 0) 0 := by
    by_cases hl : layO s
    · rw [n1 ((ldO h.si).mpr hl), may_eqO h.si, cif_y hl.1]
    · rw [n2 (fun q => hl ((ldO h.si).mp q))]
      by_cases hq : layQ s
      · rw [cif_y hq]
        have : ¬ 0 < wy (sm s) (mayO s) 0 := fun q => hl ⟨hq, q⟩
        omega
      · rw [cif_n hq]
  rw [en]; exact k'
theorem X8_span_s {p l : Int32} (h : Qw CK S1 S2 X Y s) (k : ∀ X' Y', Kp b X X' Y Y' → Qw CK S1 S2 X' Y' s → Q (aSpan s p l) (LX8 b) X' Y') : tX8_span b [.ref 0, .int p, .int l] (LX8 b) X Y Q := by
  have g9 := h.si.1
  apply tX8_span_i
  refine Q8_guest h (fun hg => cK0_mk ?_) (fun hg => cK0_ex ?_)
  · obtain ⟨g, hg', rfl⟩ := isG_c hg
    refine Q8_orders h (fun X1 Y1 kp hq pk lk ok => cK0_mk ?_)
    have e := Eq8.mg (b := b) (X := X1) (Y := Y1) S49
    have k' := k _ _ (kp.trans e.kp) (hq.scr e.scr)
    unfold aSpan at k'
    rw [cif_y hg, m_clamp (by omega)] at k'
    have em := may_eqO h.si
    refine ⟨fun q => ?_, fun q => ?_⟩
    · have q' : l = 0 := q
      refine X3_early_s (r := []) ok (by omega) (fun z z1 z2 _ _ => cS1_mk ?_)
      by_cases hl : layO s
      · have z1 := z1 ((ldO h.si).mpr hl)
        rw [em] at z1
        rw [cif_y hl] at k'
        unfold spanQ at k'
        rw [if_pos q', eps_uq z1 (fun _ hy => spL_uq hy z1)] at k'
        exact k'
      · rw [cif_n hl] at k'
        rw [z2 (fun q => hl ((ldO h.si).mp q))]; exact k'
    · have q' : ¬ l = 0 := q
      refine X3_latest_s (r := []) ok (by omega) (fun z z1 z2 _ _ => cS1_mk ?_)
      by_cases hl : layO s
      · have z1 := z1 ((ldO h.si).mpr hl)
        rw [em] at z1
        rw [cif_y hl] at k'
        unfold spanQ at k'
        rw [if_neg q', eps_uq z1 (fun _ hy => spH_uq hy z1)] at k'
        exact k'
      · rw [cif_n hl] at k'
        rw [z2 (fun q => hl ((ldO h.si).mp q))]; exact k'
  · have k' := k _ _ Kp.rfl h
    unfold aSpan at k'
    rw [cif_n hg] at k'
    exact k'
theorem Q8_apart {x y : Nat} (h : Qw CK S1 S2 X Y s) (pk : PKo X Y s) (hx : x < sG s) (hy : y < sG s) (k : ∀ z : Bool, (z = true ↔ x ≠ y ∧ ¬ Eo (Ms s) x y) → Q (.inl (some (.int (nI z.toNat)))) (LX8 b) X Y) : tX8_areApart b [.ref 0, .int (nI x), .int (nI y)] (LX8 b) X Y Q := by
  have g9 := h.si.1
  have hM := Ms_lt h.si x
  apply tX8_areApart_i
  simp (disch := omega) only [m_0, m_L0, m_lt, m_le, m_eq, m_neg, m_in, m_clamp, m_add, m_sub, m_pred, m_mul, m_l, m_i, m_Land, m_Lor, m_and, m_or, m_xor, m_Landn, m_andn, m_LshlP, m_shl, m_LbitP, m_bit, m_cmp0P, m_Lb0, m_Lb1, m_b0, m_b1, Nat.one_mul, pk.2.1 x (by omega)]
  exact ⟨fun q => ⟨(by first | exact Or.inl rfl | exact Or.inr rfl | exact Or.inl trivial | exact Or.inr trivial), k false ⟨fun z => (by cases z), fun z => absurd q z.1⟩⟩, fun q => ⟨by omega, fun q2 => ⟨(by first | exact Or.inl rfl | exact Or.inr rfl | exact Or.inl trivial | exact Or.inr trivial), k false ⟨fun z => (by cases z), fun z => absurd (nz_nz q2) z.2⟩⟩, fun q2 => ⟨(by first | exact Or.inl rfl | exact Or.inr rfl | exact Or.inl trivial | exact Or.inr trivial), k true ⟨fun _ => ⟨q, bsF.mpr (Classical.not_not.mp q2)⟩, fun _ => rfl⟩⟩⟩⟩
end Ord8
