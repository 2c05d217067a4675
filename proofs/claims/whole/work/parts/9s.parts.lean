/-! the chart by the class: PARTS, KIND and order -/
/-- the parts as they lie in the cells -/
def PaV (X : HX) (o : Nat → Nat) (c : Nat) (pb pe : Nat → Nat) : Prop := ∀ i, i < c → X 8 i = nI (pb i) ∧ X 9 i = nI (pe i) ∧ X 10 i = nI (lsT o (pb i) (pe i))
/-- all parts, each of them once -/
def EnP (C : Nat → Nat → Prop) (a b c : Nat) (pb pe : Nat → Nat) : Prop := (∀ p e, Pq C a b p e ↔ ∃ i, i < c ∧ pb i = p ∧ pe i = e) ∧ ∀ i j, i < c → j < c → pb i = pb j → i = j
section PrM
variable {m : Nat} {C : Nat → Nat → Prop} {a b c : Nat} {pb pe o : Nat → Nat} {may : Nat → Nat → Prop}
theorem low_ls {p e l : Nat} (hO : LyN m may m o) (hpe : p ≤ e) (he : e < m) (h1 : (ivS m o p e).testBit l = true) (h2 : ∀ i, i < l → (ivS m o p e).testBit i = false) : l = lsT o p e := by
  obtain ⟨⟨i, i1, i2, i3⟩, h4⟩ := lsT_is (o := o) hpe
  obtain ⟨lm, j, j1, j2, j3⟩ := iv_bit.mp (show Bs (ivS m o p e) l from h1)
  have h5 := h4 j j1 j2
  have h6 : ¬ lsT o p e < l := fun q => by
    have := h2 _ q
    have y : Bs (ivS m o p e) (lsT o p e) := by rw [← i3]; exact (iv_at hO he (by omega)).mpr ⟨i1, i2⟩
    have y : (ivS m o p e).testBit (lsT o p e) = true := y
    rw [y] at this; cases this
  omega
theorem ls_inj {p e p' e' : Nat} (hO : LyN m may m o) (hC : ∀ a b, C a b → a ≤ b ∧ b < m) (h : Pq C a b p e) (h' : Pq C a b p' e') (he : lsT o p e = lsT o p' e') : p = p' ∧ e = e' := by
  have b1 := hC _ _ h.1.1
  have b2 := hC _ _ h'.1.1
  have dj := Pq_disj hC h h'
  obtain ⟨⟨i, i1, i2, i3⟩, -⟩ := lsT_is (o := o) b1.1
  obtain ⟨⟨j, j1, j2, j3⟩, -⟩ := lsT_is (o := o) b2.1
  have := hO.inj (i := i) (j := j) (by omega) (by omega) (by omega)
  omega
theorem ls_lt {p e : Nat} (hO : LyN m may m o) (hpe : p ≤ e) (he : e < m) : lsT o p e < m := by
  obtain ⟨⟨i, i1, i2, i3⟩, -⟩ := lsT_is (o := o) hpe
  rw [← i3]; exact (hO i (by omega)).1
theorem PLc.en (hC : ∀ a b, C a b → a ≤ b ∧ b < m) (h : PLc C a b c pb pe) : EnP C a b c pb pe := by
  refine ⟨fun p e => h.all hC, fun i j hi hj e => ?_⟩
  rcases Nat.lt_trichotomy i j with q | q | q
  · have := h.lt hC q hj; have := h.le hC hi; omega
  · exact q
  · have := h.lt hC q hi; have := h.le hC hj; omega
theorem EnP.sw (h : EnP C a b c pb pe) {i j : Nat} (hi : i < c) (hj : j < c) : EnP C a b c (fun x => pb (swF i j x)) (fun x => pe (swF i j x)) := by
  have lt : ∀ x, x < c → swF i j x < c := fun x hx => by unfold swF; split <;> (try split) <;> omega
  refine ⟨fun p e => (h.1 p e).trans ⟨fun ⟨x, hx, q1, q2⟩ => ⟨swF i j x, lt x hx, ?_, ?_⟩, fun ⟨x, hx, q1, q2⟩ => ⟨swF i j x, lt x hx, q1, q2⟩⟩, fun x y hx hy e => ?_⟩
  · show pb (swF i j (swF i j x)) = p; rw [swF_inv]; exact q1
  · show pe (swF i j (swF i j x)) = e; rw [swF_inv]; exact q2
  · have := h.2 _ _ (lt x hx) (lt y hy) e
    rw [← swF_inv (g := i) (z := j) x, this, swF_inv]
theorem EnP.at (h : EnP C a b c pb pe) {i : Nat} (hi : i < c) : Pq C a b (pb i) (pe i) := (h.1 _ _).mpr ⟨i, hi, rfl, rfl⟩
/-- one MOMENT has no PARTS -/
theorem Pq_none (hC : ∀ a b, C a b → a ≤ b ∧ b < m) {p e : Nat} (h : Pq C a a p e) : False := by
  have := hC _ _ h.1.1
  have := h.2.1
  have := h.2.2.1
  exact h.2.2.2.1 ⟨by omega, by omega⟩
theorem tu_iff (hC : ∀ a b, C a b → a ≤ b ∧ b < m) (h : PLc C a b c pb pe) : tuP C a b ↔ ∃ i j, i < j ∧ j < c ∧ ¬ (i = 0 ∧ j + 1 = c) ∧ C (pb i) (pe j) := by
  have e1 := h.2.1
  have e2 := h.2.2.2.1
  constructor
  · rintro ⟨p, e, p', e', h1, h2, h3, h4, h5⟩
    obtain ⟨i, hi, q1, q2⟩ := (h.all hC).mp h1
    obtain ⟨j, hj, q3, q4⟩ := (h.all hC).mp h2
    have hij : i < j := by
      rcases Nat.lt_trichotomy i j with q | q | q
      · exact q
      · subst q; omega
      · have := h.lt hC q hi; have := h.le hC hj; omega
    refine ⟨i, j, hij, hj, fun q => h4 ⟨by rw [← q1, q.1]; exact e1, ?_⟩, by rw [q1, q4]; exact h5⟩
    have e : j = c - 1 := by omega
    rw [← q4, e]; exact e2
  · rintro ⟨i, j, hij, hj, h4, h5⟩
    have hlt := h.lt hC hij hj
    have hle := h.le hC (i := i) (by omega)
    refine ⟨pb i, pe i, pb j, pe j, h.2.2.2.2 i (by omega), h.2.2.2.2 j hj, by omega, fun q => h4 ⟨?_, ?_⟩, h5⟩
    · refine Classical.byContradiction fun z => ?_
      have := h.ge hC (i := i) (by omega); omega
    · refine Classical.byContradiction fun z => ?_
      have := h.lt hC (i := j) (j := c - 1) (by omega) (by omega)
      have := h.le hC (i := c - 1) (by omega)
      omega
end PrM
section Prt8
variable {Q : Qt} {r : Ly} {X : HX} {Y : HY} {m : Nat} {C : Nat → Nat → Prop} {a b c : Nat} {pb pe o : Nat → Nat} {may : Nat → Nat → Prop}
theorem X1_parts_s (hm : m ≤ 9) (hO : LyN m may m o) (hL : ∀ p, p < m → X 13 p = nI (o p)) (hT : BlV X 7 m (stI C)) (hC : ∀ a b, C a b → a ≤ b ∧ b < m) (h1 : ∀ a, a < m → C a a) (hab : a ≤ b) (hb : b < m) (k : ∀ X' c pb pe, (∀ i, i ≠ 0 → i ≠ 8 → i ≠ 9 → i ≠ 10 → X' i = X i) → (∀ i, i ≠ 12 → X' 0 i = X 0 i) → X' 0 12 = nI c → c ≤ 9 → ((c = 0 ∧ a = b) ∨ (a < b ∧ PLc C a b c pb pe)) → PaV X' o c pb pe → Q (.inl none) (LX1_3 ++ r) X' Y) : tX1_findParts [.ref 0, .ref 11, .int (nI a), .int (nI b)] (LX1_3 ++ r) X Y Q := by
  apply tX1_findParts_i
  by_cases q0 : b ≤ a
  · have e : a = b := by omega
    apply hX1_findParts_11_i
    rw [m_le (by omega) (by omega)]
    exact ⟨fun _ => k _ 0 (fun _ => 0) (fun _ => 0) (fun i h0 _ _ _ => up2_row h0) (fun i hi => up2_idx hi) up2_same (by omega) (Or.inl ⟨rfl, e⟩) (fun i hi => by omega), fun q => absurd q0 q⟩
  have H : ∀ n p i X2 pb pe, p + n = b + 1 → a + i ≤ p → (∀ i, i ≠ 0 → i ≠ 8 → i ≠ 9 → i ≠ 10 → X2 i = X i) → (∀ i, i ≠ 12 → X2 0 i = X 0 i) → X2 0 12 = nI i → PaV X2 o i pb pe → (∀ j, j < i → Pq C a b (pb j) (pe j)) → (i = 0 → p = a) → (0 < i → pb 0 = a ∧ pe (i - 1) + 1 = p) → (∀ j, j + 1 < i → pb (j + 1) = pe j + 1) → hX1_findParts_11 Q r (nI a) (nI b) (nI p) (nI i) X2 Y := by
    intro n
    induction n using Nat.strongRecOn with
    | ind n ih =>
      intro p i X2 pb pe hp hai f g h12 pv pq i0 i1 ch
      apply hX1_findParts_11_i
      rw [m_le (by omega) (by omega), m_le (by omega) (by omega), m_lt (by omega) (by omega)]
      by_cases hn : n = 0
      · have c0 : 0 < i := Nat.pos_of_ne_zero (fun e => by have := i0 e; omega)
        have fin := k X2 i pb pe f g h12 (by omega) (Or.inr ⟨by omega, c0, (i1 c0).1, ch, by have := (i1 c0).2; omega, pq⟩) pv
        exact ⟨fun q => absurd q q0, fun _ => ⟨fun _ => fin, fun _ => ⟨fun _ => fin, fun q => absurd (by omega) q⟩⟩⟩
      refine ⟨fun q => absurd q q0, fun _ => ⟨fun q => absurd q (by omega), fun _ => ⟨fun q => absurd q (by omega), fun _ => ?_⟩⟩⟩
      rw [m_add]
      have hs : hX1_findParts_39 Q r (nI a) (nI b) (nI p) (nI i) (nI p) (nI (p + 1)) X2 Y := by
        have G : ∀ u e l, e + u = b + 1 → p ≤ l → l < e → l ≤ b → stI C p l → ¬ (p = a ∧ l = b) → (∀ e', stI C p e' → e' < e → ¬ (p = a ∧ e' = b) → e' ≤ l) → hX1_findParts_39 Q r (nI a) (nI b) (nI p) (nI i) (nI l) (nI e) X2 Y := by
          intro u
          induction u with
          | zero =>
            intro e l he hpl hle hlb st nw mx
            have pn : Pq C a b p l := by
              refine Pq_next hC ?_ (by omega) hlb st nw (fun e' h1 h2 h3 => mx e' h1 (by omega) h3)
              by_cases ci : i = 0
              · exact Or.inl (i0 ci)
              · exact Or.inr ⟨pb (i - 1), pe (i - 1), pq _ (by omega), (i1 (by omega)).2.symm⟩
            have T9 := pw9 hm
            have il : ivS m o p l < 2 ^ m := iv_lt
            have i0 := iv_ne hO hpl (by omega)
            apply hX1_findParts_39_i
            rw [h12, m_lt (by omega) (by omega)]
            rw [m_clamp (show i < 2147483648 by omega), up2_out (show (0 : Nat) ≠ 8 by omega), h12, m_clamp (show i < 2147483648 by omega), up2_out (show (0 : Nat) ≠ 9 by omega), up2_out (show (0 : Nat) ≠ 8 by omega), h12, m_clamp (show i < 2147483648 by omega)]
            refine ⟨fun _ => ⟨(m_in (by omega)).mpr (by omega), (m_in (by omega)).mpr (by omega), ?_⟩, fun q => absurd (by omega) q⟩
            refine X1_from_s hm hO (fun p hp => by rw [up2_row (by omega), up2_row (by omega), f 13 (by omega) (by omega) (by omega) (by omega)]; exact hL p hp) hpl (by omega) (cK1_mk ?_)
            rw [m_l (by omega)]
            refine X8_lowest_s (by omega) (by omega) (fun l0 l63 lb ll => cK1_mk ⟨(m_in (by omega)).mpr (by omega), ?_⟩)
            have el := low_ls hO hpl (by omega) lb ll
            rw [m_add, m_add, up2_out (X := up2 (up2 X2 8 i (nI p)) 9 i (nI l)) (show (0 : Nat) ≠ 10 by omega), up2_out (show (0 : Nat) ≠ 9 by omega), up2_out (show (0 : Nat) ≠ 8 by omega), h12, m_add]
            refine ih (b + 1 - (l + 1)) (by omega) (l + 1) (i + 1) _ (upD pb i p) (upD pe i l) (by omega) (by omega) (fun x h0 h8 h9 h10 => by rw [up2_row h0, up2_row h10, up2_row h9, up2_row h8]; exact f x h0 h8 h9 h10) (fun x hx => by rw [up2_idx hx, up2_out (by omega), up2_out (by omega), up2_out (by omega)]; exact g x hx) up2_same (fun j hj => ?_) (fun j hj => ?_) (fun e => by omega) (fun _ => ⟨?_, ?_⟩) (fun j hj => ?_)
            · have e8 : ∀ x, up2 (up2 (up2 (up2 X2 8 i (nI p)) 9 i (nI l)) 10 i (nI l0)) 0 12 (nI (i + 1)) 8 x = if x = i then nI p else X2 8 x := fun x => by rw [up2_row (by omega), up2_row (by omega), up2_row (by omega), up2_at]
              have e9 : ∀ x, up2 (up2 (up2 (up2 X2 8 i (nI p)) 9 i (nI l)) 10 i (nI l0)) 0 12 (nI (i + 1)) 9 x = if x = i then nI l else X2 9 x := fun x => by rw [up2_row (by omega), up2_row (by omega), up2_at, up2_row (by omega)]
              have e10 : ∀ x, up2 (up2 (up2 (up2 X2 8 i (nI p)) 9 i (nI l)) 10 i (nI l0)) 0 12 (nI (i + 1)) 10 x = if x = i then nI l0 else X2 10 x := fun x => by rw [up2_row (by omega), up2_at, up2_row (by omega), up2_row (by omega)]
              rw [e8, e9, e10]
              unfold upD
              by_cases e : j = i
              · rw [if_pos e, if_pos e, if_pos e, if_pos e, if_pos e, el]; exact ⟨rfl, rfl, rfl⟩
              · rw [if_neg e, if_neg e, if_neg e, if_neg e, if_neg e]; exact pv j (by omega)
            · unfold upD
              by_cases e : j = i
              · rw [if_pos e, if_pos e]; exact pn
              · rw [if_neg e, if_neg e]; exact pq j (by omega)
            · unfold upD
              by_cases e : 0 = i
              · rw [if_pos e]; exact ‹i = 0 → p = a› e.symm
              · rw [if_neg e]; exact (i1 (by omega)).1
            · unfold upD
              rw [if_pos (by omega)]
            · unfold upD
              by_cases e : j + 1 = i
              · rw [if_pos e, if_neg (by omega)]
                have := (i1 (by omega)).2
                rw [show i - 1 = j by omega] at this
                omega
              · rw [if_neg e, if_neg (by omega)]; exact ch j (by omega)
          | succ u ihu =>
            intro e l he hpl hle hlb st nw mx
            have et := hT.z (a := p) (b := e) (by omega) (by omega)
            have skip : (stI C p e → p = a ∧ e = b) → hX1_findParts_39 Q r (nI a) (nI b) (nI p) (nI i) (nI l) (nI (e + 1)) X2 Y := fun hq => ihu (e + 1) l (by omega) hpl (by omega) hlb st nw (fun e' z1 z2 z3 => by
              by_cases y : e' = e
              · subst y; exact absurd (hq z1) z3
              · exact mx e' z1 (by omega) z3)
            have take : stI C p e → ¬ (p = a ∧ e = b) → hX1_findParts_39 Q r (nI a) (nI b) (nI p) (nI i) (nI e) (nI (e + 1)) X2 Y := fun z1 z2 => ihu (e + 1) e (by omega) (by omega) (by omega) (by omega) z1 z2 (fun e' _ y _ => by omega)
            apply hX1_findParts_39_i
            rw [m_lt (by omega) (by omega), m_mul, m_add (9 * p) e, m_clamp (by omega), f 7 (by omega) (by omega) (by omega) (by omega), m_add e 1, m_eq (by omega) (by omega), m_eq (by omega) (by omega)]
            refine ⟨fun q => absurd q (by omega), fun _ => ⟨(m_in (by omega)).mpr (by omega), fun q => skip (fun y => absurd y (et.mp q)), fun q => ?_⟩⟩
            have hst : stI C p e := Classical.byContradiction fun y => q (et.mpr y)
            refine ⟨fun y => take hst (fun z => y z.1), fun y => ⟨fun z => skip (fun _ => ⟨Classical.not_not.mp y, z⟩), fun z => take hst (fun w => z w.2)⟩⟩
        exact G (b - p) (p + 1) p (by omega) (Nat.le_refl _) (by omega) (by omega) (st_one hC h1 (by omega)) (by omega) (fun e' z1 z2 _ => by omega)
      exact hs
  exact H (b + 1 - a) a 0 _ (fun _ => 0) (fun _ => 0) (by omega) (by omega) (fun i h0 _ _ _ => up2_row h0) (fun i hi => up2_idx hi) up2_same (fun i hi => by omega) (fun j hj => by omega) (fun _ => rfl) (fun h => by omega) (fun j hj => by omega)
/-- KIND of a node, by its parts -/
noncomputable def kdN (C : Nat → Nat → Prop) (a b : Nat) : Nat := cif (a = b) 0 (cif (tuP C a b) 2 1)
theorem X1_kind_s (hm : m ≤ 9) (hT : BlV X 6 m C) (hC : ∀ a b, C a b → a ≤ b ∧ b < m) (h12 : X 0 12 = nI c) (c9 : c ≤ 9) (hp : (c = 0 ∧ a = b) ∨ (a < b ∧ PLc C a b c pb pe)) (hv : PaV X o c pb pe) (k : Q (.inl (some (.int (nI (kdN C a b))))) (LX1 ++ r) X Y) : tX1_kindOfFound [.ref 0] (LX1 ++ r) X Y Q := by
  apply tX1_kindOfFound_i
  rw [h12]
  rcases hp with ⟨rfl, e⟩ | ⟨hab, hp⟩
  · have e0 : kdN C a b = 0 := by unfold kdN; rw [cif_y e]
    rw [e0] at k
    exact ⟨fun q => absurd rfl q, fun _ => k⟩
  have c0 := hp.1
  have ti := tu_iff hC hp
  refine ⟨fun _ => ?_, fun q => absurd (fun y => by have := (m_eq (a := c) (b := 0) (by omega) (by omega)).mp y; omega) q⟩
  have yes : tuP C a b → Q (.inl (some (.int (nI 2)))) (LX1 ++ r) X Y := fun t => by
    have e0 : kdN C a b = 2 := by unfold kdN; rw [cif_n (by omega), cif_y t]
    rw [e0] at k; exact k
  have H : ∀ n i, i + n = c → (∀ x y, x < y → y < c → x < i → ¬ (x = 0 ∧ y + 1 = c) → ¬ C (pb x) (pe y)) → hX1_kindOfFound_11 Q r (nI i) X Y := by
    intro n
    induction n with
    | zero =>
      intro i hi no
      apply hX1_kindOfFound_11_i
      rw [h12, m_le (by omega) (by omega)]
      refine ⟨fun _ => ?_, fun q => absurd (by omega) q⟩
      have e0 : kdN C a b = 1 := by
        unfold kdN
        rw [cif_n (by omega), cif_n (fun t => by
          obtain ⟨x, y, h1, h2, h3, h4⟩ := ti.mp t
          exact no x y h1 h2 (by omega) h3 h4)]
      rw [e0] at k; exact k
    | succ n ih =>
      intro i hi no
      apply hX1_kindOfFound_11_i
      rw [h12, m_le (by omega) (by omega), m_add]
      refine ⟨fun q => absurd q (by omega), fun _ => ?_⟩
      have G : ∀ u j, j + u = c → i < j → (∀ y, i < y → y < j → ¬ (i = 0 ∧ y + 1 = c) → ¬ C (pb i) (pe y)) → hX1_kindOfFound_23 Q r (nI i) (nI j) X Y := by
        intro u
        induction u with
        | zero =>
          intro j hj hij n2
          apply hX1_kindOfFound_23_i
          rw [h12, m_le (by omega) (by omega)]
          refine ⟨fun _ => ?_, fun q => absurd (by omega) q⟩
          rw [m_add]
          refine ih (i + 1) (by omega) (fun x y h1 h2 h3 h4 => ?_)
          by_cases e : x = i
          · subst e; exact n2 y h1 (by omega) h4
          · exact no x y h1 h2 (by omega) h4
        | succ u ihu =>
          intro j hj hij n2
          have bi := hp.le hC (i := i) (by omega)
          have bj := hp.le hC (i := j) (by omega)
          have bl := hp.lt hC hij (by omega)
          have bm := hC _ _ (hp.2.2.2.2 j (by omega)).1.1
          have et := hT.z (a := pb i) (b := pe j) (by omega) (by omega)
          have nx : (¬ (i = 0 ∧ j + 1 = c) → ¬ C (pb i) (pe j)) → hX1_kindOfFound_23 Q r (nI i) (nI (j + 1)) X Y := fun hq => ihu (j + 1) (by omega) (by omega) (fun y h1 h2 h3 => by
            by_cases e : y = j
            · subst e; exact hq h3
            · exact n2 y h1 (by omega) h3)
          have chk : ¬ (i = 0 ∧ j + 1 = c) → (vp_in (nI i) 9 ∧ (vp_in (nI j) 9 ∧ (vp_in (((nI 9) * (X 8 (nI i).toNatClampNeg)) + (X 9 (nI j).toNatClampNeg)) 81 ∧ (((X 6 (((nI 9) * (X 8 (nI i).toNatClampNeg)) + (X 9 (nI j).toNatClampNeg)).toNatClampNeg) = 0 → hX1_kindOfFound_23 Q r (nI i) (nI j + nI 1) X Y) ∧ (¬ ((X 6 (((nI 9) * (X 8 (nI i).toNatClampNeg)) + (X 9 (nI j).toNatClampNeg)).toNatClampNeg) = 0) → Q (.inl (some (.int (nI 2)))) (LX1 ++ r) X Y))))) := fun hne => by
            rw [m_clamp (show i < 2147483648 by omega), m_clamp (show j < 2147483648 by omega), (hv i (by omega)).1, (hv j (by omega)).2.1, m_mul, m_add (9 * pb i) (pe j), m_clamp (by omega), m_add j 1]
            exact ⟨(m_in (by omega)).mpr (by omega), (m_in (by omega)).mpr (by omega), (m_in (by omega)).mpr (by omega), fun q => nx (fun _ => et.mp q), fun q => yes (ti.mpr ⟨i, j, hij, by omega, hne, Classical.byContradiction fun y => q (et.mpr y)⟩)⟩
          apply hX1_kindOfFound_23_i
          rw [h12, m_le (by omega) (by omega), m_sub (by omega), m_eq (a := j) (b := c - 1) (by omega) (by omega)]
          refine ⟨fun q => absurd q (by omega), fun _ => ⟨fun q => ⟨fun y => absurd rfl y, fun _ => chk (fun z => q (by rw [z.1]; rfl))⟩, fun q => ⟨fun q2 => ⟨fun y => absurd rfl y, fun _ => chk (fun z => q2 (by omega))⟩, fun q2 => ⟨fun _ => ?_, fun y => absurd (by decide) y⟩⟩⟩⟩
          rw [m_add]
          have i0 : i = 0 := (m_eq (a := i) (b := 0) (by omega) (by omega)).mp (Classical.not_not.mp q)
          exact nx (fun y => absurd ⟨i0, by have := Classical.not_not.mp q2; omega⟩ y)
      exact G (c - (i + 1)) (i + 1) (by omega) (by omega) (fun y h1 h2 => by omega)
  exact H c 0 (by omega) (fun x y _ _ h => by omega)
end Prt8
