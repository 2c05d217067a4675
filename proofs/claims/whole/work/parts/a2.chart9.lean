/-! the chart by the reference: chart, node, sum -/
def CM9 (X : HX) (s : St) : Prop := X 0 35 = nI (chZ s) ∧ chZ s ≤ 17 ∧ ∀ x, x < chZ s → X 18 x = nI (nIv s x) ∧ X 19 x = zI (nE s x).2.2 ∧ X 20 x = nI (nPt s x) ∧ X 21 x = nI (nKd s x)
theorem CM9_in : InM CM9 := fun X X' s e e2 h => by
  unfold CM9 at h ⊢
  rw [e2, e 18 (by omega) (by omega), e 19 (by omega) (by omega), e 20 (by omega) (by omega), e 21 (by omega) (by omega)]
  exact h
/-- what is told, kept, listed and fed stays -/
def ScC (X X' : HX) (Y Y' : HY) : Prop := (∀ c, c ∈ [1, 2, 3, 4, 5, 6] → X' c = X c ∧ Y' c = Y c) ∧ ∀ i, i ∈ [5, 7, 10] → X' 0 i = X 0 i
theorem ScC.trans {X X1 X2 : HX} {Y Y1 Y2 : HY} (h : ScC X X1 Y Y1) (k : ScC X1 X2 Y1 Y2) : ScC X X2 Y Y2 := ⟨fun c hc => ⟨(k.1 c hc).1.trans (h.1 c hc).1, (k.1 c hc).2.trans (h.1 c hc).2⟩, fun i hi => (k.2 i hi).trans (h.2 i hi)⟩
theorem ScM.c {X X' : HX} {Y Y' : HY} (h : ScM X X' Y Y') : ScC X X' Y Y' := ⟨fun c hc => h.1 c (by simp only [List.mem_cons, List.not_mem_nil, or_false] at hc ⊢; omega), fun i hi => h.2 i (by simp only [List.mem_cons, List.not_mem_nil, or_false] at hi ⊢; omega)⟩
theorem MKo.of {X X' : HX} {s : St} (m : MKo X s) (e0 : ∀ i, i ∈ [16, 18, 24, 25] → X' 0 i = X 0 i) (e9 : X' 9 = X 9) (e10 : X' 10 = X 10) (e14 : X' 14 = X 14) (e15 : X' 15 = X 15) : MKo X' s := by
  obtain ⟨a, b, c, d⟩ := m
  refine ⟨?_, ?_, ?_, ?_⟩
  · unfold MV at a ⊢; rw [e0 16 (by decide), e9]; exact a
  · unfold RwV at b ⊢; rw [e0 18 (by decide), e10]; exact b
  · unfold PrV at c ⊢; rw [e0 24 (by decide), e14, e15]; exact c
  · show X' 0 25 = -1; rw [e0 25 (by decide)]; exact d
def cdS : String → Nat := fun E => if E = XS then 1 else 2
section Chr9
variable {X X' : HX} {Y Y' : HY} {s : St} {r : Ly} {Q : Qt}
theorem X9_chart_s (h : Mw CM9 X Y s) (hl : layQ s) (m : MKo X s) (w : WyV Y (sm s) (mayQ s)) (k : ∀ X' Y', ScC X X' Y Y' → X' 0 0 = X 0 0 → Mw CM9 X' Y' s → CM9 X' s → Q (.inl none) (LX9 ++ r) X' Y') : tX9_chart [.ref 0] (LX9 ++ r) X Y Q := by
  have si := h.si
  have h9 := lay_9 si hl
  have T0 := Nat.two_pow_pos (sm s)
  have m16 : X 0 16 = nI (sm s) := m.1.2.1
  apply tX9_chart_i
  refine ⟨fun q => ⟨(by first | exact Or.inl rfl | exact Or.inr rfl | exact Or.inl trivial | exact Or.inr trivial), ?_⟩, fun q => ?_⟩
  · rw [up2_idx (show (16 : Nat) ≠ 28 by omega), up2_idx (show (16 : Nat) ≠ 35 by omega), m16]
    have z0 : ∀ i, i ≠ 28 → i ≠ 35 → up2 (up2 X 0 35 (nI 0)) 0 28 (nI 1) 0 i = X 0 i := fun i h1 h2 => by rw [up2_idx h1, up2_idx h2]
    have zc : ∀ c, c ≠ 0 → up2 (up2 X 0 35 (nI 0)) 0 28 (nI 1) c = X c := fun c hc => by rw [up2_row hc, up2_row hc]
    have z28 : up2 (up2 X 0 35 (nI 0)) 0 28 (nI 1) 0 28 = nI 1 := up2_same
    have z35 : up2 (up2 X 0 35 (nI 0)) 0 28 (nI 1) 0 35 = nI 0 := by rw [up2_idx (by omega)]; exact up2_same
    revert z0 zc z28 z35
    generalize up2 (up2 X 0 35 (nI 0)) 0 28 (nI 1) = X1
    intro z0 zc z28 z35
    have sv1 : SV X1 s := h.sv.of (zc 1 (by omega))
    have mk1 : MKo X1 s := m.of (fun i hi => z0 i (fun e => by subst e; simp at hi) (fun e => by subst e; simp at hi)) (zc 9 (by omega)) (zc 10 (by omega)) (zc 14 (by omega)) (zc 15 (by omega))
    refine ⟨fun q0 => ?_, fun q0 => ?_⟩
    · have m0 : 0 < sm s := Nat.pos_of_ne_zero (fun e => q0 (by rw [e]; rfl))
      -- what is known of the chart comes last
      have hT : Mw (fun _ _ => True) X1 Y s := ⟨fun _ _ _ _ _ _ => trivial, si, sv1, Or.inr ⟨z28, trivial⟩⟩
      refine X9_common_s hT hl mk1 w (fun X2 Y2 f2 g2 y2 mk2 w2 b16 b17 => cK0_mk ?_)
      have em := mayN_eq (s := s) h9
      refine X9_least_s (t := none) mk2.1.2.1 h9 mk2.2.1 mk2.2.2.1 mk2.2.2.2 (by rw [em]; exact w2) (by rw [em]; exact lay_wy si hl) (fun X3 le f3 l1 l2 => cK0_mk ?_)
      rw [em] at l1
      have hO := (leQ_is si hl).1
      have l3 : ∀ p, p < sm s → X3 13 p = nI (leQ s p) := fun p hp => by rw [l2 p hp, leQ_eq si hl l1 p hp]
      have e16 : X3 0 16 = nI (sm s) := by rw [f3 0 (by omega)]; exact mk2.1.2.1
      have v40 : vp_in (nI 0) 40 := (m_in (by omega)).mpr (by omega)
      rw [e16, show ((nI 1) <<< ((nI (sm s)) &&& 31)) - (nI 1) = nI (2 ^ sm s - 1) by simp (disch := omega) only [m_0, m_L0, m_lt, m_le, m_eq, m_neg, m_in, m_clamp, m_add, m_sub, m_pred, m_mul, m_l, m_i, m_Land, m_Lor, m_and, m_or, m_xor, m_Landn, m_andn, m_LshlP, m_shl, m_LbitP, m_bit, m_cmp0P, m_Lb0, m_Lb1, m_b0, m_b1, Nat.one_mul], m_clamp (show 0 < 2147483648 by omega)]
      refine ⟨v40, v40, ?_⟩
      obtain ⟨X4, hX4⟩ : ∃ X4, X4 = up2 (up2 X3 23 0 (nI (2 ^ sm s - 1))) 24 0 (-1) := ⟨_, rfl⟩
      have f4 : ∀ c, c ≠ 23 → c ≠ 24 → X4 c = X3 c := fun c h1 h2 => by rw [hX4, up2_row h2, up2_row h1]
      rw [← hX4]
      have x0 : ∀ i, i ≠ 18 → X4 0 i = X1 0 i := fun i hi => by rw [f4 0 (by omega) (by omega), f3 0 (by omega)]; exact g2 i hi
      refine X9_loop_s (o := leQ s) h9 m0 hO (fun p hp => by rw [f4 13 (by omega) (by omega)]; exact l3 p hp) ((b16.of (f3 16 (by omega))).of (f4 16 (by omega) (by omega))) ((b17.of (f3 17 (by omega))).of (f4 17 (by omega) (by omega))) (fun X5 T f5 g5 T17 ch rv => ?_) ⟨?_, fun x hx => by omega, fun y e he => ?_⟩
      · have eT : chZ s = T := chZ_y hl m0 ch
        have ck : CM9 X5 s := by
          unfold CM9
          rw [eT]
          exact ⟨rv.1, T17, fun x hx => rv.2.1 x hx⟩
        have x5 : ∀ c, c ∉ [0, 10, 13, 16, 17, 18, 19, 20, 21, 22, 23, 24] → X5 c = X c := fun c hc => by
          simp only [List.mem_cons, List.not_mem_nil, or_false, not_or] at hc
          rw [f5 c (by simp; omega), f4 c (by omega) (by omega), f3 c (by omega), f2 c (by simp; omega)]
          exact zc c (by omega)
        have z5 : ∀ i, i ≠ 18 → i ≠ 28 → i ≠ 35 → i ≠ 37 → X5 0 i = X 0 i := fun i h1 h2 h3 h4 => by
          rw [g5 i h3 h4, x0 i h1]; exact z0 i h2 h3
        refine k X5 Y2 ⟨fun c hc => ⟨x5 c (by simp only [List.mem_cons, List.not_mem_nil, or_false] at hc ⊢; omega), y2 c (by simp only [List.mem_cons, List.not_mem_nil, or_false] at hc; omega)⟩, fun i hi => z5 i (by simp only [List.mem_cons, List.not_mem_nil, or_false] at hi; omega) (by simp only [List.mem_cons, List.not_mem_nil, or_false] at hi; omega) (by simp only [List.mem_cons, List.not_mem_nil, or_false] at hi; omega) (by simp only [List.mem_cons, List.not_mem_nil, or_false] at hi; omega)⟩ (z5 0 (by omega) (by omega) (by omega) (by omega)) ⟨h.1, si, h.sv.of (x5 1 (by decide)), Or.inr ⟨?_, ck⟩⟩ ck
        rw [g5 28 (by omega) (by omega), x0 28 (by omega)]; exact z28
      · rw [x0 35 (by omega)]; exact z35
      · have y0 : y = 0 := by
          have := (List.getElem?_eq_some_iff.mp he).1
          have : y < 1 := this
          omega
        subst y0
        have he : ((0, sm s - 1, -1) : Nde) = e := Option.some.inj he
        rw [← he, hX4]
        show up2 (up2 X3 23 0 (nI (2 ^ sm s - 1))) 24 0 (-1) 23 0 = nI (ivS (sm s) (leQ s) 0 (sm s - 1)) ∧ up2 (up2 X3 23 0 (nI (2 ^ sm s - 1))) 24 0 (-1) 24 0 = zI (-1)
        rw [iv_whole hO m0]
        exact ⟨by rw [up2_row (by omega)]; exact up2_same, up2_same⟩
    · have m27 := m.1.1
      have m0 : sm s = 0 := (m_eq (a := sm s) (b := 0) (by omega) (by omega)).mp (Classical.not_not.mp q0)
      have ez : chZ s = 0 := by unfold chZ; rw [cif_n (fun y => by omega)]
      have ck : CM9 X1 s := by
        unfold CM9
        rw [ez]
        exact ⟨z35, by omega, fun x hx => by omega⟩
      exact k X1 Y ⟨fun c hc => ⟨zc c (fun e => by subst e; simp at hc), rfl⟩, fun i hi => z0 i (fun e => by subst e; simp at hi) (fun e => by subst e; simp at hi)⟩ (z0 0 (by omega) (by omega)) ⟨h.1, si, sv1, Or.inr ⟨z28, ck⟩⟩ ck
  · have e1 : X 0 28 = nI 1 := by
      rcases h.2.2.2 with z | z
      · exact absurd z q
      · exact z.1
    exact k X Y ScM.rfl.c rfl h (h.2.2.2.get e1)
theorem X9_node_s {p q : Int32} (h : Mw CM9 X Y s) (k : ∀ X' Y' res, ScC X X' Y Y' → Mw CM9 X' Y' s → ansM cdS (aNode s p q) (X' 0 0) res → Q res (LX9 ++ r) X' Y') : tX9_node [.ref 0, .int p, .int q] (LX9 ++ r) X Y Q := by
  apply tX9_node_i
  refine Q9_ready h (fun hl X1 Y1 sc1 e1 h1 n1 m1 w1 => cK1_mk ?_) (fun hl X1 Y1 sc1 e1 h1 n1 => cK1_mk ?_)
  · refine ⟨fun _ => Q9_in (by omega) (by omega) (fun z hz => cK1_mk ?_), fun y => absurd (by decide) y⟩
    rw [up2_same, up2_same]
    have sc : ∀ v, ScM X (up2 X1 0 0 v) Y Y1 := fun v => sc1.trans (.up (by decide))
    have hh : ∀ v, Mw CM9 (up2 X1 0 0 v) Y1 s := fun v => h1.sc (.up (by decide))
    refine ⟨fun y => ?_, fun y => ?_⟩
    · have hq := hz.mp (z11 y)
      refine ⟨fun _ => X9_chart_s (hh _) hl (m1.up (by omega) (by omega) (by omega) (by omega)) w1 (fun X2 Y2 sc2 e2 h2 ck => cK0_mk ?_), fun y => absurd (by decide) y⟩
      obtain ⟨k0, k17, kn⟩ := id ck
      have hq' : ¬ q < 0 ∧ q ≤ nI 3 := ⟨hq.1, by
        rcases i32c q with y' | ⟨w, hw, rfl⟩
        · exact absurd y' hq.1
        · have := hq.2; rw [m_lt (by omega) hw] at this; rw [m_le hw (by omega)]; omega⟩
      have kk := fun res => k X2 Y2 res ((sc _).c.trans sc2) h2
      unfold aNode at kk
      rw [cif_y hl, cif_y hq', e2, up2_same] at kk
      rw [k0]
      refine Q9_below (by omega) (fun z2 hz2 => cK1_mk ⟨fun y2 => ?_, fun y2 => ?_⟩)
      · have hp := hz2.mp (z11 y2)
        rw [cif_y hp] at kk
        obtain ⟨x, hx, rfl⟩ : ∃ x, x < 2147483648 ∧ p = nI x := by
          rcases i32c p with y' | ⟨x, hx, e⟩
          · exact absurd y' hp.1
          · exact ⟨x, hx, e⟩
        have hxz := hp.2
        rw [m_clamp hx] at hxz kk ⊢
        obtain ⟨c1, c2, c3, c4⟩ := kn x hxz
        have v20 : vp_in (nI x) 20 := (m_in hx).mpr (by omega)
        obtain ⟨w, hw, rfl⟩ : ∃ w, w < 4 ∧ q = nI w := by
          rcases i32c q with y' | ⟨w, hw, rfl⟩
          · exact absurd y' hq.1
          · have := hq'.2; rw [m_le hw (by omega)] at this; exact ⟨w, by omega, rfl⟩
        have kk' := kk _ ⟨rfl, rfl⟩
        unfold ndA at kk'
        obtain rfl | rfl | rfl | rfl : w = 0 ∨ w = 1 ∨ w = 2 ∨ w = 3 := by omega
        · refine ⟨fun y => absurd (by decide) y, fun _ => ⟨v20, ?_⟩⟩
          rw [c4]; exact kk'
        · refine ⟨fun _ => ⟨fun y => absurd rfl y, fun _ => ⟨v20, ?_⟩⟩, fun y => absurd (by decide) y⟩
          rw [c1]; exact kk'
        · refine ⟨fun _ => ⟨fun _ => ⟨fun y => absurd rfl y, fun _ => ⟨v20, ?_⟩⟩, fun y => absurd (by decide) y⟩, fun y => absurd (by decide) y⟩
          rw [c2]; exact kk'
        · refine ⟨fun _ => ⟨fun _ => ⟨fun _ => ⟨v20, ?_⟩, fun y => absurd (by decide) y⟩, fun y => absurd (by decide) y⟩, fun y => absurd (by decide) y⟩
          rw [c3]; exact kk'
      · rw [cif_n (fun w => y2 (by rw [hz2.mpr w]; decide))] at kk
        exact kk _ ⟨rfl, rfl⟩
    · have hn : ¬ (¬ q < 0 ∧ q ≤ nI 3) := fun w => y (by
        rw [hz.mpr ⟨w.1, fun z => by
          rcases i32c q with y' | ⟨x, hx, rfl⟩
          · exact absurd y' w.1
          · have h2 := w.2; rw [m_le hx (by omega)] at h2; rw [m_lt (by omega) hx] at z; omega⟩]
        decide)
      refine ⟨fun y => absurd y (by decide), fun _ => k _ Y1 _ (sc _).c (hh _) ?_⟩
      unfold aNode
      rw [cif_y hl, cif_n hn]
      exact ⟨by rw [up2_same]; rfl, _, rfl⟩
  · rw [up2_same]
    refine ⟨fun y => absurd rfl y, fun _ => ⟨fun y => absurd y (by decide), fun _ => k _ Y1 _ (sc1.trans (.up (by decide))).c (h1.sc (.up (by decide))) ?_⟩⟩
    unfold aNode
    rw [cif_n hl]
    exact ⟨by rw [up2_same]; rfl, _, rfl⟩
theorem X9_sum_a {q : Int32} (h : Mw CM9 X Y s) (k : ∀ X' Y' res, ScC X X' Y Y' → Mw CM9 X' Y' s → ansM cd1 (aSum s q) (X' 0 0) res → Q res (LX9 ++ r) X' Y') : tX9_sum [.ref 0, .int q] (LX9 ++ r) X Y Q := by
  refine X9_sum_s h (fun w hw e sc hx => ?_) (fun e hl X1 Y1 sc1 e1 h1 n1 m1 w1 => X9_chart_s h1 hl m1 w1 (fun X2 Y2 sc2 e2 h2 ck => cK0_mk ?_)) (fun e hl X1 Y1 sc1 e1 h1 => ?_) (fun hn sc hx => ?_)
  · refine k _ _ _ sc.c hx ?_
    rw [e, aSum_w hw]
    exact ⟨up2_same, rfl⟩
  · refine k _ _ _ (sc1.c.trans sc2) h2 ?_
    rw [e, aSum_6, ck.1]
    exact ⟨by rw [e2]; exact e1, rfl⟩
  · refine k _ _ _ sc1.c h1 ?_
    have ez : chZ s = 0 := by unfold chZ; rw [cif_n (fun y => hl y.1)]
    rw [e, aSum_6, ez]
    exact ⟨e1, rfl⟩
  · refine k _ _ _ sc.c hx ?_
    rw [aSum_n hn]
    exact ⟨up2_same, rfl⟩
end Chr9
