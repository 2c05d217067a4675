/-! list by the reference -/
/-- a LIST, as the reference has it -/
def LM (X : HX) (Y : HY) (l : Ls) : Prop := lsI l ∧ X 1 260 = nI l.1 ∧ X 1 261 = nI (lsPr l) ∧ ∀ i, i < 60 → Y 3 i = lN (l.2 i)
/-- all but the TAPE and the LIST stays -/
def KmL (X X' : HX) (Y Y' : HY) : Prop := (∀ c, c ≠ 0 → c ≠ 1 → X' c = X c) ∧ (∀ i, i ∉ [0, 7, 8] → X' 0 i = X 0 i) ∧ (∀ i, i < 260 → X' 1 i = X 1 i) ∧ (∀ c, c ≠ 3 → Y' c = Y c) ∧ X' 0 7 = nI 0
/-- a byte of a LIST's -/
def byL (t : Tp) (n j : Nat) : Prop := t.2 j < n ∧ (j % 2 = 1 → t.2 j ≠ t.2 (j - 1))
theorem okL_by {t : Tp} {n : Nat} (h1 : 1 ≤ n) (h2 : n ≤ 60) : okL t (nI n) ↔ t.1 % 2 = 0 ∧ ∀ j, j < t.1 → byL t n j := by
  have cn : (nI n).toNatClampNeg = n := m_clamp (by omega)
  unfold okL
  rw [cn, m_lt (by omega) (by omega), m_lt (by omega) (by omega)]
  constructor
  · rintro ⟨-, -, ev, h⟩
    refine ⟨ev, fun j hj => ?_⟩
    have q := h (j / 2) (by omega)
    by_cases od : j % 2 = 1
    · rw [show 2 * (j / 2) + 1 = j by omega, show 2 * (j / 2) = j - 1 by omega] at q
      exact ⟨q.2.1, fun _ e => q.2.2 e.symm⟩
    · rw [show 2 * (j / 2) = j by omega] at q
      exact ⟨q.1, fun y => absurd y od⟩
  · rintro ⟨ev, h⟩
    refine ⟨by omega, by omega, ev, fun i hi => ?_⟩
    have q1 := h (2 * i) (by omega)
    have q2 := h (2 * i + 1) (by omega)
    exact ⟨q1.1, q2.1, fun e => q2.2 (by omega) (by rw [show 2 * i + 1 - 1 = 2 * i by omega]; exact e.symm)⟩
section Lst9
variable {CM : HX → St → Prop} {X X' : HX} {Y Y' : HY} {s : St} {r : Ly} {Q : Qt}
theorem Mw.list (h : Mw CM X Y s) (e : KmL X X' Y Y') : Mw CM X' Y' s := by
  obtain ⟨e1, e2, e3, e4, e5⟩ := e
  obtain ⟨a1, a2, a3, a4⟩ := h.sv
  have n40 := h.si.2.1
  refine ⟨h.1, h.si, ⟨by rw [e3 0 (by omega)]; exact a1, by rw [e3 1 (by omega)]; exact a2, fun k hk => ?_, fun i hi => ?_⟩, h.2.2.2.mono (e2 28 (by decide)) (fun z => h.1 X X' s (fun c h1 h2 => e1 c (by omega) (by omega)) (e2 35 (by decide)) z)⟩
  · rw [e3 _ (by omega), e3 _ (by omega), e3 _ (by omega), e3 _ (by omega), e3 _ (by omega), e3 _ (by omega)]
    exact a3 k hk
  · rw [e3 _ (by omega), e3 _ (by omega)]
    exact a4 i hi
/-- the meetings are told, one after another -/
theorem X9_list160 {t : Tp} {n : Nat} (n1 : 1 ≤ n) (n60 : n ≤ 60) (ok : okL t (nI n)) (t4 : t.1 ≤ 400) (h8 : X 0 8 = nI t.1) (h5 : ∀ i, i < t.1 → X 5 i = nI (t.2 i) ∧ t.2 i < 256) (h261 : X 1 261 = nI 0) (hr : ∀ i, i < 60 → Y 3 i = lN 0) (k : ∀ X' Y', (∀ c, c ≠ 1 → X' c = X c) → (∀ i, i ≠ 261 → X' 1 i = X 1 i) → (∀ c, c ≠ 3 → Y' c = Y c) → X' 1 261 = nI (lsPr (lsT2 t (nI n))) → (∀ i, i < 60 → Y' 3 i = lN ((lsT2 t (nI n)).2 i)) → Q (rI (nI (lsPr (lsT2 t (nI n))))) (LX9 ++ r) X' Y') : hX9_list_160 Q r (nI 0) X Y := by
  have cn : (nI n).toNatClampNeg = n := m_clamp (by omega)
  have ev := ok.2.2.1
  have by2 : ∀ i, 2 * i + 1 < t.1 → t.2 (2 * i) < n ∧ t.2 (2 * i + 1) < n ∧ t.2 (2 * i) ≠ t.2 (2 * i + 1) := fun i hi => by have := ok.2.2.2 i hi; rw [cn] at this; exact this
  have v1 : vp_in (nI 261) 262 := (m_in (by omega)).mpr (by omega)
  have c261 : (nI 261).toNatClampNeg = 261 := m_clamp (by omega)
  have H : ∀ m i X2 Y2 e, i + m = t.1 / 2 → (∀ c, c ≠ 1 → X2 c = X c) → (∀ i, i ≠ 261 → X2 1 i = X 1 i) → (∀ c, c ≠ 3 → Y2 c = Y c) → X2 1 261 = nI e → enD (lsN t i) = 2 * e → e ≤ i → (∀ v, v < 60 → Y2 3 v = lN (lsN t i v)) → hX9_list_160 Q r (nI (2 * i)) X2 Y2 := by
    intro m
    induction m with
    | zero =>
      intro i X2 Y2 e hi f f1 g e2 hE he hr2
      have ei : i = t.1 / 2 := by omega
      subst ei
      apply hX9_list_160_i
      rw [f 0 (by omega), h8, m_le (by omega) (by omega), c261, e2]
      have el : lsPr (lsT2 t (nI n)) = e := by
        show enD (lsN t (t.1 / 2)) / 2 = e
        rw [hE]; omega
      refine ⟨fun _ => ⟨v1, ?_⟩, fun q => absurd (by omega) q⟩
      have kk := k X2 Y2 f f1 g (by rw [el]; exact e2) hr2
      rw [el] at kk; exact kk
    | succ m ih =>
      intro i X2 Y2 e hi f f1 g e2 hE he hr2
      obtain ⟨b1, b2, b3⟩ := by2 i (by omega)
      have hl := lsN_ok (t := t) (n := 0) (G := n) n60 (k := i) (fun j hj => by2 j (by omega))
      have gm := hl.2.1
      have x1 : X2 5 (2 * i) = nI (t.2 (2 * i)) := by rw [f 5 (by omega)]; exact (h5 _ (by omega)).1
      have x2 : X2 5 (2 * i + 1) = nI (t.2 (2 * i + 1)) := by rw [f 5 (by omega)]; exact (h5 _ (by omega)).1
      have la := hl.2.2.2 (t.2 (2 * i))
      have lb := hl.2.2.2 (t.2 (2 * i + 1))
      have sy : Eo (lsN t i) (t.2 (2 * i)) (t.2 (2 * i + 1)) ↔ Eo (lsN t i) (t.2 (2 * i + 1)) (t.2 (2 * i)) := ⟨fun q => (gm _ _ q).2.2.2, fun q => (gm _ _ q).2.2.2⟩
      apply hX9_list_160_i
      rw [f 0 (by omega), h8, m_le (by omega) (by omega), m_add (2 * i) 1, m_add (2 * i) 2, m_clamp (show 2 * i < 2147483648 by omega), m_clamp (show 2 * i + 1 < 2147483648 by omega), x1, x2, m_clamp (show t.2 (2 * i) < 2147483648 by omega), m_clamp (show t.2 (2 * i + 1) < 2147483648 by omega), c261, e2, up2_idx (X := Y2) (fun z => b3 z.symm), hr2 _ (by omega), hr2 _ (by omega)]
      have va : vp_in (nI (t.2 (2 * i))) 60 := (m_in (by omega)).mpr (by omega)
      have vb : vp_in (nI (t.2 (2 * i + 1))) 60 := (m_in (by omega)).mpr (by omega)
      refine ⟨fun q => absurd q (by omega), fun _ => ⟨(m_in (by omega)).mpr (by omega), (m_in (by omega)).mpr (by omega), va, ?_⟩⟩
      rw [m_cmp0, m_l (show t.2 (2 * i + 1) < 2147483648 by omega), m_LbitP (show lsN t i (t.2 (2 * i)) < 9223372036854775808 from Nat.lt_trans la (by omega)) (by omega), m_add e 1]
      have eb : lN (nB (lsN t i (t.2 (2 * i))) (t.2 (2 * i + 1))) = lN 1 ↔ Eo (lsN t i) (t.2 (2 * i)) (t.2 (2 * i + 1)) := m_Lb1
      rw [eb]
      refine ⟨fun q => ⟨va, va, vb, vb, v1, v1, ?_⟩, fun q => ?_⟩
      · have hn : ¬ Eo (lsN t i) (t.2 (2 * i + 1)) (t.2 (2 * i)) := fun y => q (sy.mpr y)
        have en := enD_new (M := lsN t i) (a := t.2 (2 * i)) (b := t.2 (2 * i + 1)) (by omega) (by omega) b3 q hn
        refine ih (i + 1) _ _ (e + 1) (by omega) (fun c hc => by rw [up2_row hc]; exact f c hc) (fun j hj => by rw [up2_idx hj]; exact f1 j hj) (fun c hc => by rw [up2_row hc, up2_row hc]; exact g c hc) up2_same (by show enD (jn (lsN t i) (t.2 (2 * i)) (t.2 (2 * i + 1))) = _; rw [en]; omega) (by omega) (fun v hv => ?_)
        show _ = lN (jn (lsN t i) (t.2 (2 * i)) (t.2 (2 * i + 1)) v)
        unfold jn
        rw [up2_at, up2_at]
        by_cases e2 : v = t.2 (2 * i + 1)
        · rw [if_pos e2, if_neg (fun z => b3 (z.symm.trans e2)), if_pos e2]
          simp (disch := omega) only [m_0, m_L0, m_lt, m_le, m_eq, m_neg, m_in, m_clamp, m_add, m_sub, m_pred, m_mul, m_l, m_i, m_Land, m_Lor, m_and, m_or, m_xor, m_Landn, m_andn, m_LshlP, m_shl, m_LbitP, m_bit, m_cmp0P, m_Lb0, m_Lb1, m_b0, m_b1, Nat.one_mul]
        · rw [if_neg e2]
          by_cases e1 : v = t.2 (2 * i)
          · rw [if_pos e1, if_pos e1]
            simp (disch := omega) only [m_0, m_L0, m_lt, m_le, m_eq, m_neg, m_in, m_clamp, m_add, m_sub, m_pred, m_mul, m_l, m_i, m_Land, m_Lor, m_and, m_or, m_xor, m_Landn, m_andn, m_LshlP, m_shl, m_LbitP, m_bit, m_cmp0P, m_Lb0, m_Lb1, m_b0, m_b1, Nat.one_mul]
          · rw [if_neg e1, if_neg e1, if_neg e2]; exact hr2 v hv
      · have h1 := Classical.not_not.mp q
        have eo := enD_old b3 h1 (sy.mp h1)
        have es : lsN t (i + 1) = lsN t i := eo
        exact ih (i + 1) X2 Y2 e (by omega) f f1 g e2 (by rw [es]; exact hE) (by omega) (fun v hv => by rw [es]; exact hr2 v hv)
  exact H (t.1 / 2) 0 X Y 0 (by omega) (fun _ _ => rfl) (fun _ _ => rfl) (fun _ _ => rfl) h261 (by show enD (fun _ => 0) = 0; decide +kernel) (by omega) (fun v hv => hr v hv)
theorem X9_list_s {t : Tp} {p : Int32} (h : Mw CM X Y s) (ht : TV9 X t) (k1 : okL t p → ∀ X' Y', KmL X X' Y Y' → X' 0 0 = nI 0 → LM X' Y' (lsT2 t p) → Q (rI (nI (lsPr (lsT2 t p)))) (LX9 ++ r) X' Y') (k2 : ¬ okL t p → ∀ X' x, KmL X X' Y Y → X' 1 = X 1 → X' 0 0 = nI 1 → Q (rI x) (LX9 ++ r) X' Y) : tX9_list [.ref 0, .int p] (LX9 ++ r) X Y Q := by
  obtain ⟨t4, t1, t2⟩ := ht
  apply tX9_list_i
  rw [t1]
  obtain ⟨X1, hX1⟩ : ∃ X1, X1 = up2 (up2 X 0 8 (nI t.1)) 0 7 (nI 0) := ⟨_, rfl⟩
  have f1 : ∀ c, c ≠ 0 → X1 c = X c := fun c hc => by rw [hX1, up2_row hc, up2_row hc]
  have z1 : ∀ i, i ≠ 7 → i ≠ 8 → X1 0 i = X 0 i := fun i h7 h8 => by rw [hX1, up2_idx h7, up2_idx h8]
  have z8 : X1 0 8 = nI t.1 := by rw [hX1, up2_idx (by omega), up2_same]
  have z7 : X1 0 7 = nI 0 := by rw [hX1, up2_same]
  rw [← hX1]
  have km : ∀ v, KmL X (up2 X1 0 0 v) Y Y := fun v => ⟨fun c h0 h1 => by rw [up2_row h0]; exact f1 c h0, fun i hi => by
    simp only [List.mem_cons, List.not_mem_nil, or_false, not_or] at hi
    rw [up2_idx hi.1]; exact z1 i hi.2.1 hi.2.2, fun i hi => by rw [up2_row (by omega), f1 1 (by omega)], fun _ _ => rfl, by rw [up2_idx (by omega)]; exact z7⟩
  have bad : ¬ okL t p → Q (.inl (some (.int (nI 0)))) (LX9 ++ r) (up2 X1 0 0 (nI 1)) Y := fun hn => k2 hn _ (nI 0) (km _) (by rw [up2_row (by omega)]; exact f1 1 (by omega)) up2_same
  refine Q9_in (by omega) (by omega) (fun y hy => cK1_mk ?_)
  by_cases hin : ¬ p < nI 1 ∧ ¬ nI 60 < p
  · obtain ⟨n, n1, n60, rfl⟩ := okL_c (t := t) hin
    have cn : (nI n).toNatClampNeg = n := m_clamp (by omega)
    have yt : y = true := hy.mpr hin
    subst yt
    have ob := okL_by (t := t) n1 n60
    -- all bytes are right
    have good : okL t (nI n) → hX9_list_121 Q r (nI n) (nI 0) (up2 X1 0 0 (nI 0)) Y := fun ok => by
      have Z : ∀ m i Y2, i + m = 60 → (∀ c, c ≠ 3 → Y2 c = Y c) → (∀ j, j < i → Y2 3 j = lN 0) → hX9_list_121 Q r (nI n) (nI i) (up2 X1 0 0 (nI 0)) Y2 := by
        intro m
        induction m with
        | zero =>
          intro i Y2 hi g2 r2
          have c0 : (nI 260).toNatClampNeg = 260 := m_clamp (by omega)
          have c1 : (nI 261).toNatClampNeg = 261 := m_clamp (by omega)
          apply hX9_list_121_i
          rw [m_le (by omega) (by omega), c0, c1]
          refine ⟨fun _ => ⟨(m_in (by omega)).mpr (by omega), (m_in (by omega)).mpr (by omega), ?_⟩, fun q => absurd (by omega) q⟩
          refine X9_list160 n1 n60 ok t4 (by rw [up2_row (by omega), up2_row (by omega), up2_idx (by omega)]; exact z8) (fun i hi => by rw [up2_row (by omega), up2_row (by omega), up2_row (by omega), f1 5 (by omega)]; exact t2 i hi) up2_same (fun i hi => r2 i (by omega)) (fun X3 Y3 f3 g3 h3 e3 r3 => k1 ok X3 Y3 ⟨fun c h0 h1 => ?_, fun i hi => ?_, fun i hi => ?_, fun c hc => (h3 c hc).trans (g2 c hc), ?_⟩ ?_ ⟨?_, ?_, e3, r3⟩)
          · rw [f3 c h1, up2_row h1, up2_row h1, up2_row h0]; exact f1 c h0
          · simp only [List.mem_cons, List.not_mem_nil, or_false, not_or] at hi
            rw [f3 0 (by omega), up2_row (by omega), up2_row (by omega), up2_idx hi.1]; exact z1 i hi.2.1 hi.2.2
          · rw [g3 i (by omega), up2_idx (by omega), up2_idx (by omega), up2_row (by omega), f1 1 (by omega)]
          · rw [f3 0 (by omega), up2_row (by omega), up2_row (by omega), up2_idx (by omega)]; exact z7
          · rw [f3 0 (by omega), up2_row (by omega), up2_row (by omega)]; exact up2_same
          · have := lsN_ok (t := t) (n := 0) (G := n) n60 (k := t.1 / 2) (fun i hi => by have := ok.2.2.2 i (by omega); rw [cn] at this; exact this)
            unfold lsT2
            rw [cn]; exact this
          · rw [g3 260 (by omega), up2_idx (by omega), up2_same]
            show nI n = nI (nI n).toNatClampNeg
            rw [cn]
        | succ m ihm =>
          intro i Y2 hi g2 r2
          apply hX9_list_121_i
          rw [m_le (by omega) (by omega), m_clamp (show i < 2147483648 by omega), m_add]
          refine ⟨fun q => absurd q (by omega), fun _ => ⟨(m_in (by omega)).mpr (by omega), ihm (i + 1) _ (by omega) (fun c hc => by rw [up2_row hc]; exact g2 c hc) (fun j hj => ?_)⟩⟩
          rw [up2_at]
          by_cases e : j = i
          · rw [if_pos e]
          · rw [if_neg e]; exact r2 j (by omega)
      exact Z 60 0 Y (by omega) (fun _ _ => rfl) (fun j hj => by omega)
    have fin0 : ¬ okL t (nI n) → ((((up2 X1 0 0 (nI 1)) 0 0) ≤ 0 → hX9_list_121 Q r (nI n) (nI 0) (up2 X1 0 0 (nI 1)) Y) ∧ (¬ (((up2 X1 0 0 (nI 1)) 0 0) ≤ 0) → Q (.inl (some (.int (nI 0)))) (LX9 ++ r) (up2 X1 0 0 (nI 1)) Y)) := fun hn => by
      rw [up2_same]
      exact ⟨fun q => absurd q (by decide), fun _ => bad hn⟩
    have fin1 : okL t (nI n) → ((((up2 X1 0 0 (nI 0)) 0 0) ≤ 0 → hX9_list_121 Q r (nI n) (nI 0) (up2 X1 0 0 (nI 0)) Y) ∧ (¬ (((up2 X1 0 0 (nI 0)) 0 0) ≤ 0) → Q (.inl (some (.int (nI 0)))) (LX9 ++ r) (up2 X1 0 0 (nI 0)) Y)) := fun ok => by
      rw [up2_same]
      exact ⟨fun _ => good ok, fun q => absurd (by decide) q⟩
    have H : ∀ m i (z : Bool), i + m = t.1 → (z = true ↔ t.1 % 2 = 0 ∧ ∀ j, j < i → byL t n j) → hX9_list_40 Q r (nI n) (nI z.toNat) (nI i) X1 Y := by
      intro m
      induction m with
      | zero =>
        intro i z hi hz
        have ei : i = t.1 := by omega
        subst ei
        apply hX9_list_40_i
        rw [z8, m_le (by omega) (by omega)]
        refine ⟨fun _ => ⟨fun q => fin0 (fun y => ?_), fun q => fin1 (ob.mpr (hz.mp (z11 q)))⟩, fun q => absurd (Nat.le_refl _) q⟩
        have := hz.mpr (ob.mp y)
        rw [this] at q; exact absurd q (by decide)
      | succ m ih =>
        intro i z hi hz
        have b255 := (t2 i (by omega)).2
        have x1 : X1 5 i = nI (t.2 i) := by rw [f1 5 (by omega)]; exact (t2 i (by omega)).1
        apply hX9_list_40_i
        rw [z8, m_le (by omega) (by omega)]
        refine ⟨fun q => absurd q (by omega), fun _ => ⟨fun q => ?_, fun q => ?_⟩⟩
        · have nok : ¬ okL t (nI n) := fun y => by
            have := ob.mp y
            have := hz.mpr ⟨this.1, fun j hj => this.2 j (by omega)⟩
            rw [this] at q; exact absurd q (by decide)
          exact ⟨fun _ => fin0 nok, fun y => absurd q y⟩
        · obtain ⟨ev, al⟩ := hz.mp (z11 q)
          have n0 : (z : Bool) = true := z11 q
          rw [m_clamp (show i < 2147483648 by omega), x1, m_le (by omega) (by omega), pk_rem (by omega) (by omega) (by omega), m_add i 1]
          have ei : nI (i % 2) = 0 ↔ i % 2 = 0 := m_eq (a := i % 2) (b := 0) (by omega) (by omega)
          rw [ei]
          have nxt : ∀ w : Bool, (w = true ↔ byL t n i) → hX9_list_40 Q r (nI n) (nI w.toNat) (nI (i + 1)) X1 Y := fun w hw => ih (i + 1) w (by omega) ⟨fun e => ⟨ev, fun j hj => by
            by_cases ej : j = i
            · subst ej; exact hw.mp e
            · exact al j (by omega)⟩, fun e => hw.mpr (e.2 i (by omega))⟩
          have d2 : ¬ nI 2 = 0 := by decide
          refine ⟨(m_in (by omega)).mpr (by omega), fun w => nxt false ⟨fun e => (by cases e), fun y => by have := y.1; omega⟩, fun w => ⟨d2, fun ev2 => nxt true ⟨fun _ => ⟨by omega, fun y => by omega⟩, fun _ => rfl⟩, fun od => ?_⟩⟩
          have x0 : X1 5 (i - 1) = nI (t.2 (i - 1)) := by rw [f1 5 (by omega)]; exact (t2 (i - 1) (by omega)).1
          have b0 := (t2 (i - 1) (by omega)).2
          rw [m_sub (by omega), m_clamp (by omega), x0, m_eq (by omega) (by omega)]
          refine ⟨(m_in (by omega)).mpr (by omega), (m_in (by omega)).mpr (by omega), fun e => nxt false ⟨fun e => (by cases e), fun y => absurd e (y.2 (by omega))⟩, fun e => nxt true ⟨fun _ => ⟨by omega, fun _ => e⟩, fun _ => rfl⟩⟩
    have d2 : ¬ nI 2 = 0 := by decide
    refine ⟨fun q => absurd q (by decide), fun _ => ⟨d2, ?_⟩⟩
    rw [z8, pk_rem (by omega) (by omega) (by omega)]
    have ei : nI (t.1 % 2) = 0 ↔ t.1 % 2 = 0 := m_eq (a := t.1 % 2) (b := 0) (by omega) (by omega)
    rw [ei]
    exact ⟨fun q => H t.1 0 false (by omega) ⟨fun e => (by cases e), fun y => absurd y.1 q⟩, fun q => H t.1 0 true (by omega) ⟨fun _ => ⟨Classical.not_not.mp q, fun j hj => by omega⟩, fun _ => rfl⟩⟩
  · have yf : y = false := by
      cases y with
      | false => rfl
      | true => exact absurd (hy.mp rfl) hin
    subst yf
    have nok : ¬ okL t p := fun y => hin ⟨y.1, y.2.1⟩
    refine ⟨fun _ => ?_, fun q => absurd rfl q⟩
    have f0 : ((((up2 X1 0 0 (nI 1)) 0 0) ≤ 0 → hX9_list_121 Q r p (nI 0) (up2 X1 0 0 (nI 1)) Y) ∧ (¬ (((up2 X1 0 0 (nI 1)) 0 0) ≤ 0) → Q (.inl (some (.int (nI 0)))) (LX9 ++ r) (up2 X1 0 0 (nI 1)) Y)) := by
      rw [up2_same]
      exact ⟨fun q => absurd q (by decide), fun _ => bad nok⟩
    apply hX9_list_40_i
    exact ⟨fun _ => ⟨fun _ => f0, fun q => absurd rfl q⟩, fun _ => ⟨fun _ => ⟨fun _ => f0, fun q => absurd rfl q⟩, fun q => absurd rfl q⟩⟩
end Lst9
