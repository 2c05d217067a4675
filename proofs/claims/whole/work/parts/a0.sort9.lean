/-! the chart by the reference: PARTS put in order -/
def keZ (o : Nat → Nat) (z : Bool) (p e : Nat) : Nat := if z = true then p else lsT o p e
section Srt9
variable {X X' : HX} {Y Y' : HY} {r : Ly} {Q : Qt} {m : Nat} {may : Nat → Nat → Prop} {o : Nat → Nat} {a b c : Nat} {pb pe : Nat → Nat}
theorem PsV.sw {X' : HX} {i j : Nat} (h : PsV X m o c pb pe) (hi : i < c) (hj : j < c) (e : ∀ x, X' 22 x = X 22 (swF i j x)) : PsV X' m o c (fun x => pb (swF i j x)) (fun x => pe (swF i j x)) := fun x hx => by
  have lt : swF i j x < c := by unfold swF; split <;> (try split) <;> omega
  rw [e x]
  exact h _ lt
theorem sw22 {i j : Nat} (hij : i ≠ j) (x : Nat) : up2 (up2 X 22 i (X 22 j)) 22 j (X 22 i) 22 x = X 22 (swF i j x) := by
  rw [up2_at, up2_at]
  unfold swF
  by_cases e1 : x = i
  · rw [if_neg (by omega), if_pos e1, if_pos e1]
  · rw [if_neg e1, if_neg e1]
    by_cases e2 : x = j
    · rw [if_pos e2, if_pos e2]
    · rw [if_neg e2, if_neg e2]
theorem ke_inj {C : Nat → Nat → Prop} {z : Bool} {p e p' e' : Nat} (hO : LyN m may m o) (hC : ∀ a b, C a b → a ≤ b ∧ b < m) (h : Pq C a b p e) (h' : Pq C a b p' e') (he : keZ o z p e = keZ o z p' e') : p = p' := by
  cases z with
  | false => exact (ls_inj hO hC h h' he).1
  | true => exact he
theorem X9_sort1 {z : Bool} (hm : m ≤ 9) (c9 : c ≤ 9) (c1 : 1 ≤ c) (hO : LyN m may m o) (hL : ∀ p, p < m → X 13 p = nI (o p)) (h37 : X 0 37 = nI c) (hE : EnP (cmI m may o) a b c pb pe) (hv : PsV X m o c pb pe) (k : ∀ X' pb' pe', (∀ x, x ≠ 22 → X' x = X x) → EnP (cmI m may o) a b c pb' pe' → PsV X' m o c pb' pe' → (∀ x y, x < y → y < c → keZ o z (pb' x) (pe' x) < keZ o z (pb' y) (pe' y)) → hX9_sortParts_2 Q r (nI z.toNat) (nI c) X' Y) : hX9_sortParts_2 Q r (nI z.toNat) (nI 1) X Y := by
  have hC : ∀ a b, cmI m may o a b → a ≤ b ∧ b < m := fun a b h => ⟨h.1, h.2.1⟩
  have H : ∀ n j X2 pb2 pe2, j + n = c → 0 < j → (∀ x, x ≠ 22 → X2 x = X x) → EnP (cmI m may o) a b c pb2 pe2 → PsV X2 m o c pb2 pe2 → (∀ x y, x < y → y < j → keZ o z (pb2 x) (pe2 x) < keZ o z (pb2 y) (pe2 y)) → hX9_sortParts_2 Q r (nI z.toNat) (nI j) X2 Y := by
    intro n
    induction n with
    | zero =>
      intro j X2 pb2 pe2 hj j0 f hE2 hv2 hs
      have ej : j = c := by omega
      subst ej
      exact k X2 pb2 pe2 f hE2 hv2 hs
    | succ n ih =>
      intro j X2 pb2 pe2 hj j0 f hE2 hv2 hs
      apply hX9_sortParts_2_i
      rw [f 0 (by omega), h37, m_le (by omega) (by omega)]
      refine ⟨fun q => absurd q (by omega), fun _ => ?_⟩
      have G : ∀ t X3 pb3 pe3, t ≤ j → (∀ x, x ≠ 22 → X3 x = X x) → EnP (cmI m may o) a b c pb3 pe3 → PsV X3 m o c pb3 pe3 → (∀ x y, x < y → y ≤ j → y ≠ t → keZ o z (pb3 x) (pe3 x) < keZ o z (pb3 y) (pe3 y)) → hX9_sortParts_12 Q r (nI z.toNat) (nI j) (nI t) X3 Y := by
        intro t
        induction t with
        | zero =>
          intro X3 pb3 pe3 _ f3 hE3 hv3 hg
          apply hX9_sortParts_12_i
          refine ⟨fun _ => ?_, fun q => absurd (by decide) q⟩
          rw [m_add]
          exact ih (j + 1) X3 pb3 pe3 (by omega) (by omega) f3 hE3 hv3 (fun x y h1 h2 => hg x y h1 (by omega) (by omega))
        | succ t iht =>
          intro X3 pb3 pe3 htj f3 hE3 hv3 hg
          have p1 := hE3.at (i := t + 1) (by omega)
          have p0 := hE3.at (i := t) (by omega)
          have b1 := hC _ _ p1.1.1
          have b0 := hC _ _ p0.1.1
          have l1 := ls_lt hO b1.1 b1.2
          have l0 := ls_lt hO b0.1 b0.2
          have w1 : 2 ^ lsT o (pb3 (t + 1)) (pe3 (t + 1)) ≤ 2 ^ 9 := Nat.pow_le_pow_right (by omega) (by omega)
          have w0 : 2 ^ lsT o (pb3 t) (pe3 t) ≤ 2 ^ 9 := Nat.pow_le_pow_right (by omega) (by omega)
          have v1 : vp_in (nI (t + 1)) 12 := (m_in (by omega)).mpr (by omega)
          have v0 : vp_in (nI t) 12 := (m_in (by omega)).mpr (by omega)
          have et : nI (t + 1) - nI 1 = nI t := by simp (disch := omega) only [m_0, m_L0, m_lt, m_le, m_eq, m_neg, m_in, m_clamp, m_add, m_sub, m_pred, m_mul, m_l, m_i, m_Land, m_Lor, m_and, m_or, m_xor, m_Landn, m_andn, m_LshlP, m_shl, m_LbitP, m_bit, m_cmp0P, m_Lb0, m_Lb1, m_b0, m_b1, Nat.one_mul, Nat.add_sub_cancel]
          have em : nI (t + 1) + (-1) = nI t := by simp (disch := omega) only [m_0, m_L0, m_lt, m_le, m_eq, m_neg, m_in, m_clamp, m_add, m_sub, m_pred, m_mul, m_l, m_i, m_Land, m_Lor, m_and, m_or, m_xor, m_Landn, m_andn, m_LshlP, m_shl, m_LbitP, m_bit, m_cmp0P, m_Lb0, m_Lb1, m_b0, m_b1, Nat.one_mul, Nat.add_sub_cancel]
          have stay : keZ o z (pb3 t) (pe3 t) ≤ keZ o z (pb3 (t + 1)) (pe3 (t + 1)) → hX9_sortParts_12 Q r (nI z.toNat) (nI j) (nI t) X3 Y := fun hle => iht X3 pb3 pe3 (by omega) f3 hE3 hv3 (fun x y h1 h2 h3 => by
            by_cases e : y = t + 1
            · subst e
              have hlt : keZ o z (pb3 t) (pe3 t) < keZ o z (pb3 (t + 1)) (pe3 (t + 1)) := Nat.lt_of_le_of_ne hle (fun e => by
                have := hE3.2 t (t + 1) (by omega) (by omega) (ke_inj hO hC p0 p1 e)
                omega)
              by_cases ex : x = t
              · rw [ex]; exact hlt
              · exact Nat.lt_trans (hg x t (by omega) (by omega) (by omega)) hlt
            · exact hg x y h1 h2 e)
          have swap : ¬ keZ o z (pb3 t) (pe3 t) ≤ keZ o z (pb3 (t + 1)) (pe3 (t + 1)) → hX9_sortParts_12 Q r (nI z.toNat) (nI j) (nI t) (up2 (up2 X3 22 (t + 1) (X3 22 t)) 22 t (X3 22 (t + 1))) Y := fun hle => by
            have si : swF (t + 1) t (t + 1) = t := by unfold swF; rw [if_pos rfl]
            have sj : swF (t + 1) t t = t + 1 := by unfold swF; rw [if_neg (by omega), if_pos rfl]
            have so : ∀ x, x ≠ t + 1 → x ≠ t → swF (t + 1) t x = x := fun x h1 h2 => by unfold swF; rw [if_neg h1, if_neg h2]
            refine iht _ _ _ (by omega) (fun x hx => by rw [up2_row hx, up2_row hx]; exact f3 x hx) (hE3.sw (i := t + 1) (j := t) (by omega) (by omega)) (hv3.sw (by omega) (by omega) (fun x => sw22 (by omega) x)) (fun x y h1 h2 h3 => ?_)
            show keZ o z (pb3 (swF (t + 1) t x)) (pe3 (swF (t + 1) t x)) < keZ o z (pb3 (swF (t + 1) t y)) (pe3 (swF (t + 1) t y))
            by_cases ey : y = t + 1
            · rw [ey, si]
              by_cases ex : x = t
              · rw [ex, sj]; omega
              · rw [so x (by omega) ex]
                exact hg x t (by omega) (by omega) (by omega)
            · rw [so y ey h3]
              by_cases ex : x = t
              · rw [ex, sj]; exact hg (t + 1) y (by omega) h2 ey
              · by_cases ex2 : x = t + 1
                · rw [ex2, si]; exact hg t y (by omega) h2 ey
                · rw [so x ex2 ex]; exact hg x y h1 h2 ey
          apply hX9_sortParts_12_i
          refine ⟨fun q => absurd q (fun q => by
            have q : nI (t + 1) ≤ nI 0 := q
            rw [m_le (by omega) (by omega)] at q; omega), fun _ => ?_⟩
          rw [et, em, m_clamp (show t + 1 < 2147483648 by omega), m_clamp (show t < 2147483648 by omega), hv3 (t + 1) (by omega)]
          cases z with
          | false =>
            refine ⟨fun _ => ⟨v1, X9_leastOf_s hm hO b1.1 b1.2 (cK1_mk ⟨v0, ?_⟩)⟩, fun q => absurd rfl q⟩
            rw [hv3 t (by omega)]
            refine X9_leastOf_s hm hO b0.1 b0.2 (cK1_mk ?_)
            rw [m_le (by omega) (by omega), Nat.pow_le_pow_iff_right (by omega)]
            refine ⟨fun q => ⟨fun y => absurd rfl y, fun _ => stay q⟩, fun q => ⟨fun _ => ⟨v1, v0, v1, v0, ?_⟩, fun y => absurd (by decide) y⟩⟩
            exact swap q
          | true =>
            refine ⟨fun q => absurd q (by decide), fun _ => ⟨v1, X9_begins_s hm hO (fun p hp => by rw [f3 13 (by omega)]; exact hL p hp) b1.1 b1.2 (cK1_mk ⟨v0, ?_⟩)⟩⟩
            rw [hv3 t (by omega)]
            refine X9_begins_s hm hO (fun p hp => by rw [f3 13 (by omega)]; exact hL p hp) b0.1 b0.2 (cK1_mk ?_)
            rw [m_le (by omega) (by omega)]
            refine ⟨fun q => ⟨fun y => absurd rfl y, fun _ => stay q⟩, fun q => ⟨fun _ => ⟨v1, v0, v1, v0, ?_⟩, fun y => absurd (by decide) y⟩⟩
            exact swap q
      exact G j X2 pb2 pe2 (Nat.le_refl _) f hE2 hv2 (fun x y h1 h2 h3 => hs x y h1 (by omega))
  exact H (c - 1) 1 X pb pe (by omega) (by omega) (fun _ _ => rfl) hE hv (fun x y h1 h2 => by omega)
theorem X9_sort2 (c9 : c ≤ 9) (c2 : 2 ≤ c) (h37 : X 0 37 = nI c) (hv : PsV X m o c pb pe) (k : ∀ X', (∀ x, x ≠ 22 → X' x = X x) → PsV X' m o c (fun x => pb (c - 1 - x)) (fun x => pe (c - 1 - x)) → Q (.inl none) (LX9 ++ r) X' Y) : hX9_sortParts_168 Q r (nI 0) X Y := by
  have H : ∀ n i X2, i + n = c / 2 → (∀ x, x ≠ 22 → X2 x = X x) → (∀ x, x < c → X2 22 x = X 22 (if x < i ∨ c - 1 - x < i then c - 1 - x else x)) → hX9_sortParts_168 Q r (nI i) X2 Y := by
    intro n
    induction n with
    | zero =>
      intro i X2 hi f e
      apply hX9_sortParts_168_i
      rw [f 0 (by omega), h37, m_div (by omega) (by omega) (by omega), m_le (by omega) (by omega)]
      refine ⟨by decide, fun _ => k X2 f (fun x hx => ?_), fun q => absurd (by omega) q⟩
      have ee : (if x < i ∨ c - 1 - x < i then c - 1 - x else x) = c - 1 - x := by split <;> omega
      rw [e x hx, ee]
      exact hv _ (by omega)
    | succ n ih =>
      intro i X2 hi f e
      have vi : vp_in (nI i) 12 := (m_in (by omega)).mpr (by omega)
      have vj : vp_in (nI (c - 1 - i)) 12 := (m_in (by omega)).mpr (by omega)
      apply hX9_sortParts_168_i
      rw [up2_out (X := X2) (show (0 : Nat) ≠ 22 by omega), f 0 (by omega), h37, m_div (by omega) (by omega) (by omega), m_le (by omega) (by omega), m_sub (by omega), m_sub (by omega), m_clamp (show i < 2147483648 by omega), m_clamp (show c - 1 - i < 2147483648 by omega), m_add]
      refine ⟨by decide, fun q => absurd q (by omega), fun _ => ⟨vi, vj, vi, vj, ih (i + 1) _ (by omega) (fun x hx => by rw [up2_row hx, up2_row hx]; exact f x hx) (fun x hx => ?_)⟩⟩
      rw [sw22 (by omega)]
      have lt : swF i (c - 1 - i) x < c := by unfold swF; split <;> (try split) <;> omega
      rw [e _ lt]
      congr 1
      unfold swF
      by_cases e1 : x = i
      · rw [if_pos e1, if_neg (by omega), if_pos (by omega)]; omega
      · rw [if_neg e1]
        by_cases e2 : x = c - 1 - i
        · rw [if_pos e2, if_neg (by omega), if_pos (by omega)]; omega
        · rw [if_neg e2]
          by_cases e3 : x < i ∨ c - 1 - x < i
          · rw [if_pos e3, if_pos (by omega)]
          · rw [if_neg e3, if_neg (by omega)]
  exact H (c / 2) 0 X (by omega) (fun _ _ => rfl) (fun x hx => by rw [if_neg (by omega)])
theorem X9_sort_s {z : Bool} (hm : m ≤ 9) (c9 : c ≤ 9) (c1 : 1 ≤ c) (hO : LyN m may m o) (hab : a ≤ b) (hb : b < m) (hL : ∀ p, p < m → X 13 p = nI (o p)) (h37 : X 0 37 = nI c) (hz : z = true ↔ tuP (cmI m may o) a b) (hE : EnP (cmI m may o) a b c pb pe) (hv : PsV X m o c pb pe) (k : ∀ X' pb' pe', (∀ x, x ≠ 22 → X' x = X x) → SPp m (cmI m may o) o a b c pb' pe' → PsV X' m o c pb' pe' → Q (.inl none) (LX9 ++ r) X' Y) : tX9_sortParts [.ref 0, .int (nI z.toNat)] (LX9 ++ r) X Y Q := by
  have hC : ∀ a b, cmI m may o a b → a ≤ b ∧ b < m := fun a b h => ⟨h.1, h.2.1⟩
  apply tX9_sortParts_i
  refine X9_sort1 hm c9 c1 hO hL h37 hE hv (fun X2 pb2 pe2 f hE2 hv2 hs => ?_)
  apply hX9_sortParts_2_i
  rw [f 0 (by omega), h37, m_le (Nat.lt_of_le_of_lt c9 (by omega)) (by omega)]
  refine ⟨fun _ => ?_, fun q => absurd (Nat.le_refl _) q⟩
  cases z with
  | false =>
    have nt : ¬ tuP (cmI m may o) a b := fun t => by have := hz.mpr t; cases this
    exact ⟨fun _ => k X2 pb2 pe2 f ⟨hE2.1, fun i j hij hj => by
      unfold kyP
      rw [cif_n nt, cif_n nt]
      exact hs i j hij hj⟩ hv2, fun q => absurd rfl q⟩
  | true =>
    have t := hz.mp rfl
    have hlt : a < b := by
      obtain ⟨p, e, p', e', h1, h2, h3, -, -⟩ := t
      have b1 := hC _ _ h1.1.1
      have b2 := hC _ _ h2.1.1
      have := h1.2.1
      have := h2.2.2.1
      omega
    have hs' : ∀ x y, x < y → y < c → pb2 x < pb2 y := hs
    have p0 := hE2.at (i := 0) (by omega)
    have p1 := hE2.at (i := c - 1) (by omega)
    have b0 := hC _ _ p0.1.1
    have b1 := hC _ _ p1.1.1
    have l0 := ls_lt hO b0.1 b0.2
    have l1 := ls_lt hO b1.1 b1.2
    have w0 : 2 ^ lsT o (pb2 0) (pe2 0) ≤ 2 ^ 9 := Nat.pow_le_pow_right (by omega) (by omega)
    have w1 : 2 ^ lsT o (pb2 (c - 1)) (pe2 (c - 1)) ≤ 2 ^ 9 := Nat.pow_le_pow_right (by omega) (by omega)
    have ea : pb2 0 = a := by
      obtain ⟨p, e, pq, x1, x2⟩ := Pq_cover hC (fun a ha => cm_one hO ha) hlt hb (x := a) ⟨Nat.le_refl _, by omega⟩
      obtain ⟨j, hj, j1, j2⟩ := (hE2.1 _ _).mp pq
      have := pq.2.1
      have := p0.2.1
      by_cases e : j = 0
      · subst e; omega
      · have := hs' 0 j (by omega) hj; omega
    have eb : pe2 (c - 1) = b := by
      obtain ⟨p, e, pq, x1, x2⟩ := Pq_cover hC (fun a ha => cm_one hO ha) hlt hb (x := b) ⟨by omega, Nat.le_refl _⟩
      obtain ⟨j, hj, j1, j2⟩ := (hE2.1 _ _).mp pq
      have := pq.2.2.1
      have := p1.2.2.1
      by_cases e : j = c - 1
      · subst e; omega
      · have h1 := hs' j (c - 1) (by omega) (by omega)
        have h2 := Pq_disj hC pq p1
        omega
    have c2 : 2 ≤ c := by
      refine Classical.byContradiction fun q => ?_
      have e : c = 1 := by omega
      subst e
      exact p0.2.2.2.1 ⟨ea, eb⟩
    have dirI : dirP (cmI m may o) o a b ↔ lsT o (pb2 0) (pe2 0) < lsT o (pb2 (c - 1)) (pe2 (c - 1)) := by
      constructor
      · rintro ⟨e, p, d1, d2, d3⟩
        have q1 := Pq_disj hC d1 p0
        have q2 := Pq_disj hC d2 p1
        have z1 := hC _ _ d1.1.1
        have z2 := hC _ _ d2.1.1
        have r1 : e = pe2 0 := by omega
        have r2 : p = pb2 (c - 1) := by omega
        rw [ea, eb, ← r1, ← r2]; exact d3
      · intro q
        refine ⟨pe2 0, pb2 (c - 1), by have := p0; rw [ea] at this; exact this, by have := p1; rw [eb] at this; exact this, ?_⟩
        rw [ea, eb] at q; exact q
    refine ⟨fun q => absurd q (by decide), fun _ => ⟨(m_in (by omega)).mpr (by omega), ?_⟩⟩
    rw [m_clamp (show 0 < 2147483648 by omega), hv2 0 (by omega)]
    refine X9_leastOf_s hm hO b0.1 b0.2 (cK1_mk ?_)
    rw [f 0 (by omega), h37, m_sub (by omega), m_clamp (by omega), hv2 (c - 1) (by omega)]
    refine ⟨(m_in (by omega)).mpr (by omega), X9_leastOf_s hm hO b1.1 b1.2 (cK1_mk ?_)⟩
    rw [m_le (by omega) (by omega), Nat.pow_le_pow_iff_right (by omega)]
    refine ⟨fun q => ?_, fun q => ?_⟩
    · have nd : ¬ dirP (cmI m may o) o a b := fun y => by have := dirI.mp y; omega
      refine X9_sort2 c9 c2 (by rw [f 0 (by omega)]; exact h37) hv2 (fun X3 f3 hv3 => k X3 _ _ (fun x hx => (f3 x hx).trans (f x hx)) ⟨fun p e => (hE2.1 p e).trans ⟨fun ⟨i, hi, q1, q2⟩ => ⟨c - 1 - i, by omega, ?_, ?_⟩, fun ⟨i, hi, q1, q2⟩ => ⟨c - 1 - i, by omega, q1, q2⟩⟩, fun i j hij hj => ?_⟩ hv3)
      · show pb2 (c - 1 - (c - 1 - i)) = p; rw [show c - 1 - (c - 1 - i) = i by omega]; exact q1
      · show pe2 (c - 1 - (c - 1 - i)) = e; rw [show c - 1 - (c - 1 - i) = i by omega]; exact q2
      · unfold kyP
        rw [cif_y t, cif_y t, cif_n nd, cif_n nd]
        have h1 := hs' (c - 1 - j) (c - 1 - i) (by omega) (by omega)
        have h2 := hC _ _ (hE2.at (i := c - 1 - i) (by omega)).1.1
        show m - pb2 (c - 1 - i) < m - pb2 (c - 1 - j)
        omega
    · have yd : dirP (cmI m may o) o a b := dirI.mpr (by omega)
      refine k X2 pb2 pe2 f ⟨hE2.1, fun i j hij hj => ?_⟩ hv2
      unfold kyP
      rw [cif_y t, cif_y t, cif_y yd, cif_y yd]
      exact hs' i j hij hj
end Srt9
