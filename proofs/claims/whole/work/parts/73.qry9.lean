/-! questions, by the reference -/
/-- working cells alone have changed -/
def ScM (X X' : HX) (Y Y' : HY) : Prop := (∀ c, c ∈ [1, 2, 3, 4, 5, 6, 18, 19, 20, 21] → X' c = X c ∧ Y' c = Y c) ∧ ∀ i, i ∈ [5, 7, 10, 28, 35] → X' 0 i = X 0 i
theorem ScM.rfl {X : HX} {Y : HY} : ScM X X Y Y := ⟨fun _ _ => ⟨Eq.refl _, Eq.refl _⟩, fun _ _ => Eq.refl _⟩
theorem ScM.trans {X X1 X2 : HX} {Y Y1 Y2 : HY} (h : ScM X X1 Y Y1) (k : ScM X1 X2 Y1 Y2) : ScM X X2 Y Y2 := ⟨fun c hc => ⟨(k.1 c hc).1.trans (h.1 c hc).1, (k.1 c hc).2.trans (h.1 c hc).2⟩, fun i hi => (k.2 i hi).trans (h.2 i hi)⟩
theorem ScM.of {X X' : HX} {Y Y' : HY} (f : ∀ c, c ∈ [1, 2, 3, 4, 5, 6, 18, 19, 20, 21] → X' c = X c) (g : ∀ c, c ∈ [1, 2, 3, 4, 5, 6, 18, 19, 20, 21] → Y' c = Y c) (k : ∀ i, i ∈ [5, 7, 10, 28, 35] → X' 0 i = X 0 i) : ScM X X' Y Y' := ⟨fun c hc => ⟨f c hc, g c hc⟩, k⟩
theorem ScM.up {X : HX} {Y : HY} {i : Nat} {v : Int32} (hi : i ∉ [5, 7, 10, 28, 35]) : ScM X (up2 X 0 i v) Y Y := ⟨fun c hc => ⟨up2_row (fun e => by subst e; simp at hc), Eq.refl _⟩, fun j hj => up2_idx (fun e => hi (e ▸ hj))⟩
theorem ScM.cell {X X' : HX} {Y : HY} {c0 : Nat} (h0 : c0 ∉ [0, 1, 2, 3, 4, 5, 6, 18, 19, 20, 21]) (f : ∀ c, c ≠ c0 → X' c = X c) : ScM X X' Y Y := ⟨fun c hc => ⟨f c (fun e => h0 (by subst e; exact List.mem_cons_of_mem _ hc)), Eq.refl _⟩, fun j _ => by rw [f 0 (fun e => h0 (by subst e; exact List.mem_cons_self))]⟩
theorem ScM.cellY {X : HX} {Y Y' : HY} {c0 : Nat} (h0 : c0 ∉ [1, 2, 3, 4, 5, 6, 18, 19, 20, 21]) (f : ∀ c, c ≠ c0 → Y' c = Y c) : ScM X X Y Y' := ⟨fun c hc => ⟨Eq.refl _, f c (fun e => h0 (e ▸ hc))⟩, fun _ _ => Eq.refl _⟩
def InM (CM : HX → St → Prop) : Prop := ∀ X X' s, (∀ c, 18 ≤ c → c ≤ 21 → X' c = X c) → X' 0 35 = X 0 35 → CM X s → CM X' s
/-- what the reference holds -/
def Mw (CM : HX → St → Prop) (X : HX) (Y : HY) (s : St) : Prop := InM CM ∧ SI s ∧ SV X s ∧ Fl X 0 28 (CM X s)
theorem SV.of {X X' : HX} {s : St} (h : SV X s) (e : X' 1 = X 1) : SV X' s := by unfold SV at h ⊢; rw [e]; exact h
/-- what is thrown, as a number -/
def ansM (cd : String → Nat) (a : Rs) (code : Int32) (res : Rs) : Prop := match a with
  | .inl v => code = nI 0 ∧ res = .inl v
  | .inr E => code = nI (cd E) ∧ ∃ x, res = rI x
def cd1 : String → Nat := fun _ => 1
def cdG : String → Nat := fun E => if E = XI then 1 else 2
section Qry9
variable {CM : HX → St → Prop} {X X' : HX} {Y Y' : HY} {s : St} {r : Ly} {Q : Qt}
theorem Mw.si (h : Mw CM X Y s) : SI s := h.2.1
theorem Mw.sv (h : Mw CM X Y s) : SV X s := h.2.2.1
theorem Mw.sc (h : Mw CM X Y s) (e : ScM X X' Y Y') : Mw CM X' Y' s := ⟨h.1, h.si, h.sv.of (e.1 1 (by decide)).1, h.2.2.2.mono (e.2 28 (by decide)) (fun z => h.1 X X' s (fun c h1 h2 => (e.1 c (by simp; omega)).1) (e.2 35 (by decide)) z)⟩
theorem ch_net : InM (fun _ _ => True) := fun _ _ _ _ _ _ => trivial
theorem Q9_in {p : Int32} {lo hi : Nat} {L : Ly} (hl : lo < 2147483648) (hh : hi < 2147483648) (k : ∀ z : Bool, (z = true ↔ ¬ p < nI lo ∧ ¬ nI hi < p) → Q (.inl (some (.int (nI z.toNat)))) L X Y) : tX9_isIn [.int p, .int (nI lo), .int (nI hi)] L X Y Q := by
  apply tX9_isIn_i
  exact ⟨fun q => ⟨(by first | exact Or.inl rfl | exact Or.inr rfl | exact Or.inl trivial | exact Or.inr trivial), k false ⟨fun z => (by cases z), fun z => absurd q z.1⟩⟩, fun q => ⟨fun q2 => ⟨(by first | exact Or.inl rfl | exact Or.inr rfl | exact Or.inl trivial | exact Or.inr trivial), k false ⟨fun z => (by cases z), fun z => absurd q2 z.2⟩⟩, fun q2 => ⟨(by first | exact Or.inl rfl | exact Or.inr rfl | exact Or.inl trivial | exact Or.inr trivial), k true ⟨fun _ => ⟨q, q2⟩, fun _ => rfl⟩⟩⟩⟩
/-- below n, and not below 0 -/
theorem Q9_below {p : Int32} {n : Nat} {L : Ly} (hn : n < 2147483648) (k : ∀ z : Bool, (z = true ↔ ¬ p < 0 ∧ p.toNatClampNeg < n) → Q (.inl (some (.int (nI z.toNat)))) L X Y) : tX9_isIn [.int p, .int (nI 0), .int (nI n - nI 1)] L X Y Q := by
  have e : nI n - nI 1 = zI ((n : Int) - 1) := by rw [← m_zI, ← m_zI, m_zsub]; rfl
  rw [e]
  apply tX9_isIn_i
  refine ⟨fun q => ⟨(by first | exact Or.inl rfl | exact Or.inr rfl | exact Or.inl trivial | exact Or.inr trivial), k false ⟨fun z => (by cases z), fun z => absurd q z.1⟩⟩, fun q => ?_⟩
  rcases i32c p with z | ⟨g, hg, rfl⟩
  · exact absurd z q
  · rw [m_clamp hg] at k
    rw [← m_zI, m_zlt (by omega) (by omega)]
    exact ⟨fun q2 => ⟨(by first | exact Or.inl rfl | exact Or.inr rfl | exact Or.inl trivial | exact Or.inr trivial), k false ⟨fun z => (by cases z), fun z => by omega⟩⟩, fun q2 => ⟨(by first | exact Or.inl rfl | exact Or.inr rfl | exact Or.inl trivial | exact Or.inr trivial), k true ⟨fun _ => ⟨q, by omega⟩, fun _ => rfl⟩⟩⟩
theorem Q9_guest {p : Int32} (h : Mw CM X Y s) (k : ∀ z : Bool, (z = true ↔ isG s p) → Q (.inl (some (.int (nI z.toNat)))) (LX9 ++ r) X Y) : tX9_isGuest [.ref 0, .int p] (LX9 ++ r) X Y Q := by
  have g9 := h.si.1
  apply tX9_isGuest_i
  simp (disch := omega) only [m_0, m_L0, m_lt, m_le, m_eq, m_neg, m_in, m_clamp, m_add, m_sub, m_pred, m_mul, m_l, m_i, m_Land, m_Lor, m_and, m_or, m_xor, m_Landn, m_andn, m_LshlP, m_shl, m_LbitP, m_bit, m_cmp0P, m_Lb0, m_Lb1, m_b0, m_b1, Nat.one_mul, h.sv.1]
  exact ⟨by omega, Q9_below (by omega) (fun z hz => cK1_mk ⟨b01 z, k z hz⟩)⟩
theorem Q9_all (h : Mw CM X Y s) (k : Q (.inl (some (.int (nI (2 ^ sG s - 1))))) (LX9 ++ r) X Y) : tX9_all [.ref 0] (LX9 ++ r) X Y Q := by
  have g9 := h.si.1
  have := Nat.two_pow_pos (sG s)
  apply tX9_all_i
  simp (disch := omega) only [m_0, m_L0, m_lt, m_le, m_eq, m_neg, m_in, m_clamp, m_add, m_sub, m_pred, m_mul, m_l, m_i, m_Land, m_Lor, m_and, m_or, m_xor, m_Landn, m_andn, m_LshlP, m_shl, m_LbitP, m_bit, m_cmp0P, m_Lb0, m_Lb1, m_b0, m_b1, Nat.one_mul, h.sv.1]
  exact ⟨by omega, k⟩
theorem Q9_plain (h : Mw CM X Y s) (k : ∀ X', ScM X X' Y Y → (X' 0 0 = X 0 0) → Mw CM X' Y s → NV X' (Ms s) → X' 0 42 = nI (ops s (sFo s)).length → OV X' 25 26 (ops s (sFo s)) 40 → Q (.inl none) (LX9 ++ r) X' Y) : tX9_plain [.ref 0] (LX9 ++ r) X Y Q :=
  X9_plain_s h.si h.sv (fun X' f1 f2 a b c => by
    have sc : ScM X X' Y Y := .of (fun c hc => f1 c (fun e => by subst e; simp at hc) (fun e => by subst e; simp at hc) (fun e => by subst e; simp at hc) (fun e => by subst e; simp at hc)) (fun _ _ => Eq.refl _) (fun i hi => f2 i (fun e => by subst e; simp at hi))
    exact k X' sc (f2 0 (by omega)) (h.sc sc) a b c)
theorem full10 (hI : SI s) : 2 ^ sG s - 1 < 1024 := by have := pw9 hI.1; omega
theorem Q9_canBe {S : Nat} (h : Mw CM X Y s) (hN : NV X (Ms s)) (hS : S < 1024) (k : ∀ (z : Bool) X', ScM X X' Y Y → (∀ c, c ≠ 8 → X' c = X c) → Mw CM X' Y s → NV X' (Ms s) → (z = true ↔ cnB (Ms s) S) → Q (.inl (some (.int (nI z.toNat)))) (LX9 ++ r) X' Y) : tX9_canBe [.ref 0, .int (nI S)] (LX9 ++ r) X Y Q :=
  X9_canBe_s hN (Ms_gm h.si) hS (fun z X' f hz => by
    have sc : ScM X X' Y Y := .cell (by decide) f
    exact k z X' sc f (h.sc sc) (fun i hi => by rw [f 7 (by omega)]; exact hN i hi) hz)
theorem Q9_canP (h : Mw CM X Y s) (k : ∀ (z : Bool) X', ScM X X' Y Y → X' 0 0 = X 0 0 → Mw CM X' Y s → NV X' (Ms s) → (z = true ↔ layQ s) → Q (.inl (some (.int (nI z.toNat)))) (LX9 ++ r) X' Y) : tX9_canPlain [.ref 0] (LX9 ++ r) X Y Q := by
  apply tX9_canPlain_i
  refine Q9_plain h (fun X1 sc1 e1 h1 n1 _ _ => cK0_mk (Q9_all h1 (cK1_mk (Q9_canBe h1 n1 (full10 h.si) (fun z X2 sc2 f2 h2 n2 hz => cK1_mk ⟨b01 z, k z X2 (sc1.trans sc2) (by rw [f2 0 (by omega)]; exact e1) h2 n2 hz⟩)))))
/-- MOMENTS, as the reference has them -/
def MKo (X : HX) (s : St) : Prop := MV X (sm s) (so s) ∧ RwV X (sG s) (rwF (Ms s) (sG s)) ∧ PrV X (sG s) [] ∧ TrV X (sG s) none
theorem Q9_moms (h : Mw CM X Y s) (hN : NV X (Ms s)) (k : ∀ X', ScM X X' Y Y → X' 0 0 = X 0 0 → X' 7 = X 7 → Mw CM X' Y s → MKo X' s → Q (.inl none) (LX9 ++ r) X' Y) : tX9_findMoments [.ref 0] (LX9 ++ r) X Y Q :=
  X9_moms_s h.sv.1 hN h.si.1 Ms_bd (Ms_sym h.si) (Ms_irr h.si) (fun X' f1 f2 a b c d => by
    have sc : ScM X X' Y Y := .of (fun c hc => f1 c (fun e => by subst e; simp at hc) (fun e => by subst e; simp at hc) (fun e => by subst e; simp at hc)) (fun _ _ => Eq.refl _) (fun i hi => f2 i (fun e => by subst e; simp at hi) (fun e => by subst e; simp at hi) (fun e => by subst e; simp at hi) (fun e => by subst e; simp at hi))
    exact k X' sc (f2 0 (by omega) (by omega) (by omega) (by omega)) (f1 7 (by omega) (by omega) (by omega)) (h.sc sc) ⟨a, b, c, d⟩)
/-- .. and the orders counted -/
theorem Q9_ready (h : Mw CM X Y s) (k1 : layQ s → ∀ X' Y', ScM X X' Y Y' → X' 0 0 = X 0 0 → Mw CM X' Y' s → NV X' (Ms s) → MKo X' s → WyV Y' (sm s) (mayQ s) → Q (.inl (some (.int (nI 1)))) (LX9 ++ r) X' Y') (k2 : ¬ layQ s → ∀ X' Y', ScM X X' Y Y' → X' 0 0 = X 0 0 → Mw CM X' Y' s → NV X' (Ms s) → Q (.inl (some (.int (nI 0)))) (LX9 ++ r) X' Y') : tX9_ready [.ref 0] (LX9 ++ r) X Y Q := by
  apply tX9_ready_i
  refine Q9_canP h (fun z X1 sc1 e1 h1 n1 hz => cK1_mk ⟨fun q => ?_, fun q => ?_⟩)
  · have hl := hz.mp (z11 q)
    have h9 := lay_9 h.si hl
    refine Q9_moms h1 n1 (fun X2 sc2 e2 e7 h2 m2 => cK0_mk ?_)
    refine X9_count_s m2.1.2.1 h9 m2.2.1 m2.2.2.1 m2.2.2.2 (fun Y3 g3 w3 => cK2_mk ⟨(by first | exact Or.inl rfl | exact Or.inr rfl | exact Or.inl trivial | exact Or.inr trivial), ?_⟩)
    have sc3 : ScM X2 X2 Y Y3 := .cellY (by decide) g3
    rw [mayN_eq h9] at w3
    exact k1 hl X2 Y3 ((sc1.trans sc2).trans sc3) (e2.trans e1) (h2.sc sc3) (fun i hi => by rw [e7]; exact n1 i hi) m2 w3
  · exact ⟨(by first | exact Or.inl rfl | exact Or.inr rfl | exact Or.inl trivial | exact Or.inr trivial), k2 (fun y => q (by rw [hz.mpr y]; decide)) X1 Y sc1 e1 h1 n1⟩
/-- THE LEAST, by the reference -/
theorem Q9_least (h : Mw CM X Y s) (hl : layQ s) (m : MKo X s) (w : WyV Y (sm s) (mayQ s)) (k : ∀ X', ScM X X' Y Y → X' 0 0 = X 0 0 → Mw CM X' Y s → MKo X' s → (∀ p, p < sm s → X' 13 p = nI (leQ s p)) → Q (.inl none) (LX9 ++ r) X' Y) : tX9_leastLaying [.ref 0] (LX9 ++ r) X Y Q := by
  have h9 := lay_9 h.si hl
  have em := mayN_eq (s := s) h9
  refine X9_least_s (t := none) m.1.2.1 h9 m.2.1 m.2.2.1 m.2.2.2 (by rw [em]; exact w) (by rw [em]; exact lay_wy h.si hl) (fun X' le f1 l1 l2 => ?_)
  rw [em] at l1
  have sc : ScM X X' Y Y := .cell (by decide) f1
  refine k X' sc (by rw [f1 0 (by omega)]) (h.sc sc) ?_ (fun p hp => by rw [l2 p hp, leQ_eq h.si hl l1 p hp])
  obtain ⟨a, b, c, d⟩ := m
  refine ⟨?_, ?_, ?_, ?_⟩
  · unfold MV at a ⊢; rw [f1 0 (by omega), f1 9 (by omega)]; exact a
  · unfold RwV at b ⊢; rw [f1 0 (by omega), f1 10 (by omega)]; exact b
  · unfold PrV at c ⊢; rw [f1 0 (by omega), f1 14 (by omega), f1 15 (by omega)]; exact c
  · show X' 0 25 = -1; rw [f1 0 (by omega)]; exact d
/-- thrown is told -/
theorem MKo.up {i : Nat} {v : Int32} (m : MKo X s) (h1 : i ≠ 16) (h2 : i ≠ 18) (h3 : i ≠ 24) (h4 : i ≠ 25) : MKo (up2 X 0 i v) s := by
  obtain ⟨a, b, c, d⟩ := m
  refine ⟨⟨a.1, by rw [up2_idx (Ne.symm h1)]; exact a.2.1, fun k hk => by rw [up2_out (by omega)]; exact a.2.2 k hk⟩, ⟨b.1, by rw [up2_idx (Ne.symm h2)]; exact b.2.1, fun k hk => by rw [up2_out (by omega)]; exact b.2.2 k hk⟩, ⟨c.1, by rw [up2_idx (Ne.symm h3)]; exact c.2.1, fun k p hp => by simp at hp⟩, ?_⟩
  show up2 X 0 i v 0 25 = -1
  rw [up2_idx (Ne.symm h4)]; exact d
theorem X9_can_s (h : Mw CM X Y s) (k : ∀ X' Y' res, ScM X X' Y Y' → Mw CM X' Y' s → ansM cd1 (aCan s) (X' 0 0) res → Q res (LX9 ++ r) X' Y') : tX9_can [.ref 0] (LX9 ++ r) X Y Q := by
  have s0 : ScM X (up2 X 0 0 (nI 0)) Y Y := .up (by decide)
  apply tX9_can_i
  refine Q9_canP (h.sc s0) (fun z X1 sc1 e1 h1 n1 hz => cK1_mk ⟨b01 z, k _ _ _ (s0.trans sc1) h1 ⟨?_, ?_⟩⟩)
  · rw [e1, up2_same]
  · rw [iB_of hz]
theorem X9_moments_s (h : Mw CM X Y s) (k : ∀ X' Y' res, ScM X X' Y Y' → Mw CM X' Y' s → ansM cd1 (aMoments s) (X' 0 0) res → Q res (LX9 ++ r) X' Y') : tX9_moments [.ref 0] (LX9 ++ r) X Y Q := by
  have s0 : ScM X (up2 X 0 0 (nI 0)) Y Y := .up (by decide)
  apply tX9_moments_i
  refine Q9_plain (h.sc s0) (fun X1 sc1 e1 h1 n1 _ _ => cK0_mk (Q9_moms h1 n1 (fun X2 sc2 e2 _ h2 m2 => cK0_mk ?_)))
  rw [m2.1.2.1]
  exact k _ _ _ ((s0.trans sc1).trans sc2) h2 ⟨by rw [e2, e1, up2_same], rfl⟩
theorem X9_moment_s {p : Int32} (h : Mw CM X Y s) (k : ∀ X' Y' res, ScM X X' Y Y' → Mw CM X' Y' s → ansM cd1 (aMoment s p) (X' 0 0) res → Q res (LX9 ++ r) X' Y') : tX9_moment [.ref 0, .int p] (LX9 ++ r) X Y Q := by
  apply tX9_moment_i
  refine Q9_plain h (fun X1 sc1 e1 h1 n1 _ _ => cK0_mk (Q9_moms h1 n1 (fun X2 sc2 e2 _ h2 m2 => cK0_mk ?_)))
  have h27 := m2.1.1
  rw [m2.1.2.1]
  refine Q9_below (by omega) (fun z hz => cK1_mk ?_)
  have sc : ∀ v, ScM X (up2 X2 0 0 v) Y Y := fun v => (sc1.trans sc2).trans (.up (by decide))
  have hh : ∀ v, Mw CM (up2 X2 0 0 v) Y s := fun v => h2.sc (.up (by decide))
  refine ⟨fun q => ?_, fun q => ?_⟩
  · have hb := hz.mp (z11 q)
    rcases i32c p with y | ⟨g, hg, rfl⟩
    · exact absurd y hb.1
    · have hb2 := hb.2
      rw [m_clamp hg] at hb2
      simp (disch := omega) only [m_0, m_L0, m_lt, m_le, m_eq, m_neg, m_in, m_clamp, m_add, m_sub, m_pred, m_mul, m_l, m_i, m_Land, m_Lor, m_and, m_or, m_xor, m_Landn, m_andn, m_LshlP, m_shl, m_LbitP, m_bit, m_cmp0P, m_Lb0, m_Lb1, m_b0, m_b1, Nat.one_mul, up2_same, up2_out, (m2.1.2.2 g hb2).1]
      refine ⟨fun _ => ⟨by omega, k _ _ _ (sc _) (hh _) ?_⟩, fun y => absurd (by omega) y⟩
      unfold aMoment
      rw [cif_y hb, m_clamp hg]
      exact ⟨up2_same, rfl⟩
  · have hn : ¬ (¬ p < 0 ∧ p.toNatClampNeg < sm s) := fun y => q (by rw [hz.mpr y]; decide)
    simp (disch := omega) only [m_0, m_L0, m_lt, m_le, m_eq, m_neg, m_in, m_clamp, m_add, m_sub, m_pred, m_mul, m_l, m_i, m_Land, m_Lor, m_and, m_or, m_xor, m_Landn, m_andn, m_LshlP, m_shl, m_LbitP, m_bit, m_cmp0P, m_Lb0, m_Lb1, m_b0, m_b1, Nat.one_mul, up2_same]
    refine ⟨fun y => absurd y (by omega), fun _ => k _ _ _ (sc _) (hh _) ?_⟩
    unfold aMoment
    rw [cif_n hn]
    exact ⟨up2_same, _, rfl⟩
theorem X9_lay_s {p : Int32} (h : Mw CM X Y s) (k : ∀ X' Y' res, ScM X X' Y Y' → Mw CM X' Y' s → ansM cd1 (aLay s p) (X' 0 0) res → Q res (LX9 ++ r) X' Y') : tX9_lay [.ref 0, .int p] (LX9 ++ r) X Y Q := by
  apply tX9_lay_i
  refine Q9_ready h (fun hl X1 Y1 sc1 e1 h1 n1 m1 w1 => cK1_mk ?_) (fun hl X1 Y1 sc1 e1 h1 n1 => cK1_mk ?_)
  · have h9 := lay_9 h.si hl
    simp (disch := omega) only [m_0, m_L0, m_lt, m_le, m_eq, m_neg, m_in, m_clamp, m_add, m_sub, m_pred, m_mul, m_l, m_i, m_Land, m_Lor, m_and, m_or, m_xor, m_Landn, m_andn, m_LshlP, m_shl, m_LbitP, m_bit, m_cmp0P, m_Lb0, m_Lb1, m_b0, m_b1, Nat.one_mul, up2_same]
    refine ⟨fun _ => ⟨fun _ => ?_, fun y => absurd (by omega) y⟩, fun y => absurd (by omega) y⟩
    refine Q9_least (h1.sc (.up (i := 0) (by decide))) hl (m1.up (by omega) (by omega) (by omega) (by omega)) w1 (fun X2 sc2 e2 h2 m2 l2 => cK0_mk ?_)
    rw [m2.1.2.1]
    have kk := fun res => k X2 Y1 res ((sc1.trans (.up (i := 0) (v := nI 0) (by decide))).trans sc2) h2
    unfold aLay at kk
    rw [cif_y hl, show X2 0 0 = nI 0 by rw [e2, up2_same]] at kk
    refine Q9_below (by omega) (fun z hz => cK1_mk ⟨fun q => ?_, fun q => ?_⟩)
    · rw [cif_n (fun y => by rw [hz.mpr y] at q; exact absurd q (by decide))] at kk
      exact kk _ ⟨rfl, rfl⟩
    · have hb := hz.mp (z11 q)
      rw [cif_y hb] at kk
      rcases i32c p with y | ⟨g, hg, rfl⟩
      · exact absurd y hb.1
      · have hb2 := hb.2
        rw [m_clamp hg] at hb2 kk
        simp (disch := omega) only [m_0, m_L0, m_lt, m_le, m_eq, m_neg, m_in, m_clamp, m_add, m_sub, m_pred, m_mul, m_l, m_i, m_Land, m_Lor, m_and, m_or, m_xor, m_Landn, m_andn, m_LshlP, m_shl, m_LbitP, m_bit, m_cmp0P, m_Lb0, m_Lb1, m_b0, m_b1, Nat.one_mul, l2 g hb2]
        exact ⟨by omega, kk _ ⟨rfl, rfl⟩⟩
  · simp (disch := omega) only [m_0, m_L0, m_lt, m_le, m_eq, m_neg, m_in, m_clamp, m_add, m_sub, m_pred, m_mul, m_l, m_i, m_Land, m_Lor, m_and, m_or, m_xor, m_Landn, m_andn, m_LshlP, m_shl, m_LbitP, m_bit, m_cmp0P, m_Lb0, m_Lb1, m_b0, m_b1, Nat.one_mul, up2_same]
    refine ⟨fun y => (by first | exact absurd trivial y | exact absurd rfl y | exact absurd y (by omega) | exact absurd (by omega) y | exact absurd y (by decide) | exact absurd (by decide) y), fun _ => ⟨fun y => (by first | exact absurd trivial y | exact absurd rfl y | exact absurd y (by omega) | exact absurd (by omega) y | exact absurd y (by decide) | exact absurd (by decide) y), fun _ => k _ _ _ (sc1.trans (.up (by decide))) (h1.sc (.up (by decide))) ?_⟩⟩
    unfold aLay
    rw [cif_n hl]
    exact ⟨up2_same, _, rfl⟩
end Qry9
