/-! the chart by the class: drawn -/
section Ins8
variable {Q : Qt} {r : Ly} {X : HX} {Y : HY} {m : Nat} {C : Nat → Nat → Prop} {a b c : Nat} {pb pe o : Nat → Nat} {may : Nat → Nat → Prop}
theorem up2_nx {i j y x : Nat} {v : Int32} (h : x ≠ i) : up2 X j i v y x = X y x := by
  by_cases e : y = j
  · subst e; exact up2_idx h
  · rw [up2_row e]
theorem up3_o {i : Nat} {v1 v2 v3 : Int32} {y x : Nat} (h : x ≠ i) : up2 (up2 (up2 X 2 i v1) 3 i v2) 4 i v3 y x = X y x := by rw [up2_nx h, up2_nx h, up2_nx h]
theorem up3_2 {i : Nat} {v1 v2 v3 : Int32} : up2 (up2 (up2 X 2 i v1) 3 i v2) 4 i v3 2 i = v1 := by rw [up2_row (by omega), up2_row (by omega), up2_same]
theorem up3_3 {i : Nat} {v1 v2 v3 : Int32} : up2 (up2 (up2 X 2 i v1) 3 i v2) 4 i v3 3 i = v2 := by rw [up2_row (by omega), up2_same]
theorem up3_4 {i : Nat} {v1 v2 v3 : Int32} : up2 (up2 (up2 X 2 i v1) 3 i v2) 4 i v3 4 i = v3 := up2_same
theorem X1_insert_s {z k0 : Nat} (h5 : X 0 5 = nI z) (h12 : X 0 12 = nI c) (hk : k0 < z) (hz : z + c ≤ 17) (c9 : c ≤ 9) (hv : ∀ i, i < c → X 8 i = nI (pb i) ∧ X 9 i = nI (pe i)) (k : ∀ X', (∀ x, x ≠ 0 → x ≠ 2 → x ≠ 3 → x ≠ 4 → X' x = X x) → (∀ i, i ≠ 5 → X' 0 i = X 0 i) → X' 0 5 = nI (z + c) → (∀ y x, (y = 2 ∨ y = 3 ∨ y = 4) → x ≤ k0 → X' y x = X y x) → (∀ i, i < c → X' 2 (k0 + 1 + i) = nI (pb i) ∧ X' 3 (k0 + 1 + i) = nI (pe i) ∧ X' 4 (k0 + 1 + i) = nI k0) → (∀ y x, (y = 2 ∨ y = 3 ∨ y = 4) → k0 < x → x < z → X' y (x + c) = X y x) → Q (.inl none) (LX1 ++ r) X' Y) : tX1_insertParts [.ref 0, .int (nI k0)] (LX1 ++ r) X Y Q := by
  apply tX1_insertParts_i
  rw [h5, h12, m_add, m_le (by omega) (by omega), m_sub (by omega)]
  refine ⟨fun _ => ?_, fun q => absurd hz q⟩
  have L86 : ∀ n i X2, i + n = c → (∀ x, x ≠ 2 → x ≠ 3 → x ≠ 4 → X2 x = X x) → (∀ y x, (y = 2 ∨ y = 3 ∨ y = 4) → x ≤ k0 → X2 y x = X y x) → (∀ j, j < i → X2 2 (k0 + 1 + j) = nI (pb j) ∧ X2 3 (k0 + 1 + j) = nI (pe j) ∧ X2 4 (k0 + 1 + j) = nI k0) → (∀ y x, (y = 2 ∨ y = 3 ∨ y = 4) → k0 < x → x < z → X2 y (x + c) = X y x) → hX1_insertParts_86 Q r (nI k0) (nI i) X2 Y := by
    intro n
    induction n with
    | zero =>
      intro i X2 hi f g1 g2 g3
      have ei : i = c := by omega
      subst ei
      apply hX1_insertParts_86_i
      rw [f 0 (by omega) (by omega) (by omega), h12, h5, m_le (by omega) (by omega), m_add]
      refine ⟨fun _ => k _ (fun x h0 h2 h3 h4 => by rw [up2_row h0]; exact f x h2 h3 h4) (fun j hj => by rw [up2_idx hj, f 0 (by omega) (by omega) (by omega)]) up2_same (fun y x hy hx => by rw [up2_row (by omega)]; exact g1 y x hy hx) (fun j hj => by rw [up2_row (by omega), up2_row (by omega), up2_row (by omega)]; exact g2 j hj) (fun y x hy h1 h2 => by rw [up2_row (by omega)]; exact g3 y x hy h1 h2), fun q => absurd (Nat.le_refl _) q⟩
    | succ n ih =>
      intro i X2 hi f g1 g2 g3
      apply hX1_insertParts_86_i
      rw [f 0 (by omega) (by omega) (by omega), h12, m_le (by omega) (by omega), m_add k0 1, m_add (k0 + 1) i, m_clamp (show k0 + 1 + i < 2147483648 by omega), m_clamp (show i < 2147483648 by omega), up2_out (X := X2) (show (9 : Nat) ≠ 2 by omega), f 8 (by omega) (by omega) (by omega), f 9 (by omega) (by omega) (by omega), (hv i (by omega)).1, (hv i (by omega)).2, m_add i 1]
      have v9 : vp_in (nI i) 9 := (m_in (by omega)).mpr (by omega)
      have v17 : vp_in (nI (k0 + 1 + i)) 17 := (m_in (by omega)).mpr (by omega)
      refine ⟨fun q => absurd q (by omega), fun _ => ⟨v9, v17, v9, v17, v17, ih (i + 1) _ (by omega) (fun x h2 h3 h4 => by rw [up2_row h4, up2_row h3, up2_row h2]; exact f x h2 h3 h4) (fun y x hy hx => by rw [up3_o (by omega)]; exact g1 y x hy hx) (fun j hj => ?_) (fun y x hy h1 h2 => by rw [up3_o (by omega)]; exact g3 y x hy h1 h2)⟩⟩
      by_cases e : j = i
      · rw [e, up3_2, up3_3, up3_4]
        exact ⟨rfl, rfl, rfl⟩
      · rw [up3_o (by omega), up3_o (by omega), up3_o (by omega)]
        exact g2 j (by omega)
  have L22 : ∀ n t X2, t = k0 + n → t < z → (∀ x, x ≠ 2 → x ≠ 3 → x ≠ 4 → X2 x = X x) → (∀ y x, (y = 2 ∨ y = 3 ∨ y = 4) → x ≤ t → X2 y x = X y x) → (∀ y x, (y = 2 ∨ y = 3 ∨ y = 4) → t < x → x < z → X2 y (x + c) = X y x) → hX1_insertParts_22 Q r (nI k0) (nI t) X2 Y := by
    intro n
    induction n with
    | zero =>
      intro t X2 ht htz f g1 g2
      apply hX1_insertParts_22_i
      rw [m_le (by omega) (by omega)]
      exact ⟨fun _ => L86 c 0 X2 (by omega) f (fun y x hy hx => g1 y x hy (by omega)) (fun j hj => by omega) (fun y x hy h1 h2 => g2 y x hy (by omega) h2), fun q => absurd (by omega) q⟩
    | succ n ih =>
      intro t X2 ht htz f g1 g2
      apply hX1_insertParts_22_i
      rw [m_le (by omega) (by omega), m_clamp (show t < 2147483648 by omega), f 0 (by omega) (by omega) (by omega), h12, m_add, m_clamp (show t + c < 2147483648 by omega)]
      rw [up2_out (X := X2) (show (0 : Nat) ≠ 2 by omega), f 0 (by omega) (by omega) (by omega), h12, m_add, m_clamp (show t + c < 2147483648 by omega), up2_out (X := X2) (show (3 : Nat) ≠ 2 by omega)]
      rw [up2_out (X := up2 X2 2 (t + c) (X2 2 t)) (show (0 : Nat) ≠ 3 by omega), up2_out (X := X2) (show (0 : Nat) ≠ 2 by omega), f 0 (by omega) (by omega) (by omega), h12, m_add, m_clamp (show t + c < 2147483648 by omega), up2_out (X := up2 X2 2 (t + c) (X2 2 t)) (show (4 : Nat) ≠ 3 by omega), up2_out (X := X2) (show (4 : Nat) ≠ 2 by omega)]
      have v1 : vp_in (nI t) 17 := (m_in (by omega)).mpr (by omega)
      have v2 : vp_in (nI (t + c)) 17 := (m_in (by omega)).mpr (by omega)
      rw [show nI t + (-1) = nI (t - 1) by simp (disch := omega) only [m_0, m_L0, m_lt, m_le, m_eq, m_neg, m_in, m_clamp, m_add, m_sub, m_pred, m_mul, m_l, m_i, m_Land, m_Lor, m_and, m_or, m_xor, m_Landn, m_andn, m_LshlP, m_shl, m_LbitP, m_bit, m_cmp0P, m_Lb0, m_Lb1, m_b0, m_b1, Nat.one_mul]]
      refine ⟨fun q => absurd q (by omega), fun _ => ⟨v1, v2, v1, v2, v1, v2, ih (t - 1) _ (by omega) (by omega) (fun x h2 h3 h4 => by rw [up2_row h4, up2_row h3, up2_row h2]; exact f x h2 h3 h4) (fun y x hy hx => by rw [up3_o (by omega)]; exact g1 y x hy (by omega)) (fun y x hy h1 h2 => ?_)⟩⟩
      by_cases e : x = t
      · rw [e]
        rcases hy with rfl | rfl | rfl
        · rw [up3_2]; exact g1 2 t (by omega) (Nat.le_refl _)
        · rw [up3_3]; exact g1 3 t (by omega) (Nat.le_refl _)
        · rw [up3_4]; exact g1 4 t (by omega) (Nat.le_refl _)
      · rw [up3_o (by omega)]
        exact g2 y x hy (by omega) h2
  exact L22 (z - 1 - k0) (z - 1) X (by omega) (by omega) (fun _ _ _ _ => rfl) (fun _ _ _ _ => rfl) (fun y x _ h1 h2 => by omega)
end Ins8
/-- the chart's cells ahead of step k -/
def NcV (X : HX) (m : Nat) (C : Nat → Nat → Prop) (o : Nat → Nat) (k : Nat) : Prop := X 0 5 = nI (k + (pdL m C o k).length) ∧ (∀ x, x < k → X 2 x = nI (ndE m C o x).1 ∧ X 3 x = nI (ndE m C o x).2.1 ∧ X 4 x = zI (ndE m C o x).2.2 ∧ X 1 x = nI (kdN C (ndE m C o x).1 (ndE m C o x).2.1) ∧ X 5 x = nI (pN m C o (ndE m C o x).1 (ndE m C o x).2.1)) ∧ ∀ y e, (pdL m C o k)[y]? = some e → X 2 (k + y) = nI e.1 ∧ X 3 (k + y) = nI e.2.1 ∧ X 4 (k + y) = zI e.2.2
section Drw8
variable {Q : Qt} {r : Ly} {X : HX} {Y : HY} {m : Nat} {C : Nat → Nat → Prop} {o : Nat → Nat} {may : Nat → Nat → Prop}
theorem X1_loop_s (hm : m ≤ 9) (hO : LyN m may m o) (hL : ∀ p, p < m → X 13 p = nI (o p)) (hT6 : BlV X 6 m C) (hT7 : BlV X 7 m (stI C)) (hC : ∀ a b, C a b → a ≤ b ∧ b < m) (h1 : ∀ a, a < m → C a a) (h0 : 0 < m) (hs : stI C 0 (m - 1)) (k : ∀ X' T, (∀ x, 11 ≤ x → X' x = X x) → X' 0 6 = X 0 6 → T ≤ 17 → chE m C o T → NcV X' m C o T → (∀ j, j < T → stI C (ndE m C o j).1 (ndE m C o j).2.1) → Q (.inl none) (LX1_3 ++ []) X' Y) (hv : NcV X m C o 0) : hX1_draw_66 Q (nI 0) X Y := by
  have H : ∀ n t X2, t + n = 2 * m - 1 → pdO m C o t → (∀ x, 11 ≤ x → X2 x = X x) → X2 6 = X 6 → X2 7 = X 7 → X2 0 6 = X 0 6 → NcV X2 m C o t → (∀ j, j < t → pdL m C o j ≠ [] ∧ stI C (ndE m C o j).1 (ndE m C o j).2.1) → hX1_draw_66 Q (nI t) X2 Y := by
    intro n
    induction n with
    | zero =>
      intro t X2 ht hp f f6 f7 f0 hv hn
      have el : pdL m C o t = [] := by
        refine Classical.byContradiction fun q => ?_
        have h2 := hp.2.1 q
        have := wtL_len (pdL m C o t)
        have : 0 < (pdL m C o t).length := List.length_pos_iff.mpr q
        omega
      have e5 := hv.1
      rw [el] at e5
      apply hX1_draw_66_i
      rw [e5, m_le (by show t + 0 < _; omega) (by omega)]
      exact ⟨fun _ => k X2 t f f0 (by omega) ⟨el, fun j hj => (hn j hj).1⟩ hv (fun j hj => (hn j hj).2), fun q => absurd (Nat.le_refl _) q⟩
    | succ n ih =>
      intro t X2 ht hp f f6 f7 f0 hv hn
      cases el : pdL m C o t with
      | nil =>
        have e5 := hv.1
        rw [el] at e5
        apply hX1_draw_66_i
        rw [e5, m_le (by show t + 0 < _; omega) (by omega)]
        exact ⟨fun _ => k X2 t f f0 (by omega) ⟨el, fun j hj => (hn j hj).1⟩ hv (fun j hj => (hn j hj).2), fun q => absurd (Nat.le_refl _) q⟩
      | cons e r0 =>
        obtain ⟨a, b, u⟩ := e
        have hst : stI C a b := hp.1 (a, b, u) (by rw [el]; exact List.mem_cons_self)
        have bs : a ≤ b ∧ b < m := hC _ _ hst.1
        have w2 := hp.2.1 (by rw [el]; exact List.cons_ne_nil _ _)
        rw [el] at w2
        have w3 : t + (2 * (b - a) + 1 + wtL r0) ≤ 2 * m - 1 := w2
        have wl := wtL_len r0
        have e5 := hv.1
        rw [el] at e5
        have e5 : X2 0 5 = nI (t + (r0.length + 1)) := e5
        obtain ⟨n2, n3, n4⟩ := hv.2.2 0 (a, b, u) (by rw [el]; rfl)
        rw [Nat.add_zero] at n2 n3 n4
        have n2 : X2 2 t = nI a := n2
        have n3 : X2 3 t = nI b := n3
        have n4 : X2 4 t = zI u := n4
        have v17 : vp_in (nI t) 17 := (m_in (by omega)).mpr (by omega)
        have ct : (nI t).toNatClampNeg = t := m_clamp (by omega)
        apply hX1_draw_66_i
        rw [e5, m_le (by omega) (by omega), m_le (by omega) (by omega), ct, n2, n3]
        refine ⟨fun q => absurd q (by omega), fun _ => ⟨fun q => absurd q (by omega), fun _ => ⟨v17, v17, ?_⟩⟩⟩
        refine X1_parts_s (r := []) hm hO (fun p hp => by rw [f 13 (by omega)]; exact hL p hp) (hT7.of f7) hC h1 bs.1 bs.2 (fun X3 c pb pe f3 g3 h12 c9 hpp hpv => cK0_mk ⟨v17, ?_⟩)
        have z12 : ∀ v, up2 X3 5 t v 0 12 = nI c := fun v => by rw [up2_out (by omega)]; exact h12
        refine X1_kind_s (r := _) (o := o) (c := c) (pb := pb) (pe := pe) hm ((hT6.of f6).of (by rw [up2_row (by omega)]; exact f3 6 (by omega) (by omega) (by omega) (by omega))) hC (z12 _) c9 hpp (fun i hi => by rw [up2_row (by omega), up2_row (by omega), up2_row (by omega)]; exact hpv i hi) (cK1_mk ⟨v17, v17, ?_⟩)
        rw [up2_same, h12]
        obtain ⟨X4, hX4⟩ : ∃ X4, X4 = up2 (up2 X3 5 t (nI c)) 1 t (nI (kdN C a b)) := ⟨_, rfl⟩
        have q4 : ∀ x, x ≠ 5 → x ≠ 1 → X4 x = X3 x := fun x h5 h1 => by rw [hX4, up2_row h1, up2_row h5]
        rw [← hX4]
        refine X1_sort_s (r := _) (pb := pb) (pe := pe) hm c9 hO hC (by rw [q4 0 (by omega) (by omega)]; exact h12) hpp (fun i hi => by rw [q4 8 (by omega) (by omega), q4 9 (by omega) (by omega), q4 10 (by omega) (by omega)]; exact hpv i hi) (fun X5 pb5 pe5 f5 sp5 pv5 => cK0_mk ?_)
        have sq := srt_eq hO hC sp5
        have cl := spp_c hC bs.1 bs.2 sp5
        have po := pdO_s hO hC el sp5 hp
        have wk := kids_wt hO hC bs.1 bs.2 sp5 u t
        have lk := kids_len hO hC sp5 u t
        have wl2 := wtL_len (kids m C o (a, b, u) t)
        have x5 : ∀ i, i ≠ 12 → X5 0 i = X2 0 i := fun i hi => by rw [f5 0 (by omega) (by omega) (by omega), q4 0 (by omega) (by omega)]; exact g3 i hi
        refine X1_insert_s (r := _) (z := t + (r0.length + 1)) (c := c) (k0 := t) (pb := pb5) (pe := pe5) (by rw [x5 5 (by omega)]; exact e5) (by rw [f5 0 (by omega) (by omega) (by omega), q4 0 (by omega) (by omega)]; exact h12) (by omega) (by omega) c9 (fun i hi => ⟨(pv5 i hi).1, (pv5 i hi).2.1⟩) (fun X6 f6' g6 z6 a6 b6 d6 => cK0_mk ?_)
        have y6 : ∀ x, x ≠ 0 → x ≠ 1 → x ≠ 2 → x ≠ 3 → x ≠ 4 → x ≠ 5 → x ≠ 8 → x ≠ 9 → x ≠ 10 → X6 x = X2 x := fun x h0 h1 h2 h3 h4 h5 h8 h9 h10 => by
          rw [f6' x h0 h2 h3 h4, f5 x h8 h9 h10, q4 x h5 h1]; exact f3 x h0 h8 h9 h10
        have r6 : ∀ y x, (y = 2 ∨ y = 3 ∨ y = 4) → X5 y x = X2 y x := fun y x hy => by rw [f5 y (by omega) (by omega) (by omega), q4 y (by omega) (by omega), f3 y (by omega) (by omega) (by omega) (by omega)]
        have hd := pd_hd el
        rw [m_add]
        refine ih (t + 1) X6 (by omega) po.2 (fun x hx => (y6 x (by omega) (by omega) (by omega) (by omega) (by omega) (by omega) (by omega) (by omega) (by omega)).trans (f x hx)) ((y6 6 (by omega) (by omega) (by omega) (by omega) (by omega) (by omega) (by omega) (by omega) (by omega)).trans f6) ((y6 7 (by omega) (by omega) (by omega) (by omega) (by omega) (by omega) (by omega) (by omega) (by omega)).trans f7) (by rw [g6 6 (by omega), x5 6 (by omega)]; exact f0) ⟨?_, fun x hx => ?_, fun y e he => ?_⟩ (fun j hj => ?_)
        · rw [z6, po.1, List.length_append, lk]
          congr 1
          omega
        · by_cases e : x = t
          · rw [e, hd, a6 2 t (by omega) (Nat.le_refl _), a6 3 t (by omega) (Nat.le_refl _), a6 4 t (by omega) (Nat.le_refl _), r6 2 t (by omega), r6 3 t (by omega), r6 4 t (by omega), f6' 1 (by omega) (by omega) (by omega) (by omega), f6' 5 (by omega) (by omega) (by omega) (by omega), f5 1 (by omega) (by omega) (by omega), f5 5 (by omega) (by omega) (by omega), hX4]
            refine ⟨n2, n3, n4, up2_same, ?_⟩
            rw [up2_row (by omega), up2_same, sq.1]
          · obtain ⟨p1, p2, p3, p4, p5⟩ := hv.2.1 x (by omega)
            rw [a6 2 x (by omega) (by omega), a6 3 x (by omega) (by omega), a6 4 x (by omega) (by omega), r6 2 x (by omega), r6 3 x (by omega), r6 4 x (by omega), f6' 1 (by omega) (by omega) (by omega) (by omega), f6' 5 (by omega) (by omega) (by omega) (by omega), f5 1 (by omega) (by omega) (by omega), f5 5 (by omega) (by omega) (by omega), hX4]
            refine ⟨p1, p2, p3, ?_, ?_⟩
            · rw [up2_idx e, up2_row (by omega), f3 1 (by omega) (by omega) (by omega) (by omega)]; exact p4
            · rw [up2_row (by omega), up2_idx e, f3 5 (by omega) (by omega) (by omega) (by omega)]; exact p5
        · rw [po.1, kids_at hO hC sp5] at he
          by_cases q : y < c
          · rw [if_pos q] at he
            have he : (pb5 y, pe5 y, (t : Int)) = e := Option.some.inj he
            rw [← he]
            obtain ⟨p1, p2, p3⟩ := b6 y q
            exact ⟨p1, p2, p3⟩
          · rw [if_neg q] at he
            have yl : y - c < r0.length := (List.getElem?_eq_some_iff.mp he).1
            obtain ⟨p1, p2, p3⟩ := hv.2.2 (y - c + 1) e (by rw [el]; exact he)
            have ex : t + 1 + y = t + 1 + (y - c) + c := by omega
            rw [ex, d6 2 _ (by omega) (by omega) (by omega), d6 3 _ (by omega) (by omega) (by omega), d6 4 _ (by omega) (by omega) (by omega), r6 2 _ (by omega), r6 3 _ (by omega), r6 4 _ (by omega), show t + 1 + (y - c) = t + (y - c + 1) by omega]
            exact ⟨p1, p2, p3⟩
        · by_cases e : j = t
          · rw [e, hd]
            exact ⟨by rw [el]; exact List.cons_ne_nil _ _, hst⟩
          · exact hn j (by omega)
  exact H (2 * m - 1) 0 X (by omega) (pdO_0 h0 hs) (fun _ _ => rfl) rfl rfl rfl hv (fun j hj => by omega)
end Drw8
