/-! the chart by the reference: drawn; node, sum -/
/-- the reference's cells ahead of step k -/
def RcV (X : HX) (m : Nat) (C : Nat → Nat → Prop) (o : Nat → Nat) (k : Nat) : Prop := X 0 35 = nI k ∧ (∀ x, x < k → X 18 x = nI (ivS m o (ndE m C o x).1 (ndE m C o x).2.1) ∧ X 19 x = zI (ndE m C o x).2.2 ∧ X 20 x = nI (pN m C o (ndE m C o x).1 (ndE m C o x).2.1) ∧ X 21 x = nI (kdN C (ndE m C o x).1 (ndE m C o x).2.1)) ∧ ∀ y e, (pdL m C o k)[y]? = some e → X 23 ((pdL m C o k).length - 1 - y) = nI (ivS m o e.1 e.2.1) ∧ X 24 ((pdL m C o k).length - 1 - y) = zI e.2.2
section Drw9
variable {X X' : HX} {Y Y' : HY} {r : Ly} {Q : Qt} {m : Nat} {may : Nat → Nat → Prop} {o : Nat → Nat}
/-- the parts go onto the pile -/
theorem X9_push_s {h0 c k0 : Nat} {f : Nat → Int32} (hc : c ≤ 12) (hh : h0 + c ≤ 40) (hv : ∀ i, i < c → X 22 i = f i) (k : ∀ X', (∀ x, x ≠ 23 → x ≠ 24 → X' x = X x) → (∀ y i, i < h0 → X' y i = X y i) → (∀ j, j < c → X' 23 (h0 + j) = f (c - 1 - j) ∧ X' 24 (h0 + j) = nI k0) → hX9_chart_57 Q r (nI (h0 + c)) X' Y) : hX9_chart_174 Q r (nI h0) (nI k0) (nI c - nI 1) X Y := by
  have H : ∀ t j X2, j + t = c → (∀ x, x ≠ 23 → x ≠ 24 → X2 x = X x) → (∀ y i, i < h0 → X2 y i = X y i) → (∀ i, i < j → X2 23 (h0 + i) = f (c - 1 - i) ∧ X2 24 (h0 + i) = nI k0) → hX9_chart_174 Q r (nI (h0 + j)) (nI k0) (nI t - nI 1) X2 Y := by
    intro t
    induction t with
    | zero =>
      intro j X2 hj f2 g2 w2
      have ej : j = c := by omega
      subst ej
      apply hX9_chart_174_i
      exact ⟨fun _ => k X2 f2 g2 w2, fun q => absurd (by decide) q⟩
    | succ t ih =>
      intro j X2 hj f2 g2 w2
      have et : nI (t + 1) - nI 1 = nI t := by simp (disch := omega) only [m_0, m_L0, m_lt, m_le, m_eq, m_neg, m_in, m_clamp, m_add, m_sub, m_pred, m_mul, m_l, m_i, m_Land, m_Lor, m_and, m_or, m_xor, m_Landn, m_andn, m_LshlP, m_shl, m_LbitP, m_bit, m_cmp0P, m_Lb0, m_Lb1, m_b0, m_b1, Nat.one_mul, Nat.add_sub_cancel]
      have em : nI t + (-1) = nI t - nI 1 := by
        cases t with
        | zero => decide
        | succ u => simp (disch := omega) only [m_0, m_L0, m_lt, m_le, m_eq, m_neg, m_in, m_clamp, m_add, m_sub, m_pred, m_mul, m_l, m_i, m_Land, m_Lor, m_and, m_or, m_xor, m_Landn, m_andn, m_LshlP, m_shl, m_LbitP, m_bit, m_cmp0P, m_Lb0, m_Lb1, m_b0, m_b1, Nat.one_mul, Nat.add_sub_cancel]
      apply hX9_chart_174_i
      rw [et, em, m_clamp (show t < 2147483648 by omega), m_clamp (show h0 + j < 2147483648 by omega), f2 22 (by omega) (by omega), hv t (by omega), m_add]
      refine ⟨fun q => absurd q (nI_nn (by omega)), fun _ => ⟨(m_in (by omega)).mpr (by omega), (m_in (by omega)).mpr (by omega), (m_in (by omega)).mpr (by omega), ih (j + 1) _ (by omega) (fun x h1 h2 => by rw [up2_row h2, up2_row h1]; exact f2 x h1 h2) (fun y i hi => by rw [up2_nx (by omega), up2_nx (by omega)]; exact g2 y i hi) (fun i hi => ?_)⟩⟩
      by_cases e : i = j
      · rw [e, up2_row (by omega), up2_same, up2_same]
        exact ⟨by congr 1; omega, rfl⟩
      · rw [up2_nx (by omega), up2_nx (by omega), up2_nx (by omega), up2_nx (by omega)]
        exact w2 i (by omega)
  exact H c 0 X (by omega) (fun _ _ _ => rfl) (fun _ _ _ => rfl) (fun i hi => by omega)
theorem X9_loop_s (hm : m ≤ 9) (h0 : 0 < m) (hO : LyN m may m o) (hL : ∀ p, p < m → X 13 p = nI (o p)) (hT6 : BsV X 16 m (sbP m may)) (hT7 : BsV X 17 m (stS m may)) (k : ∀ X' T, (∀ x, x ∉ [0, 18, 19, 20, 21, 22, 23, 24] → X' x = X x) → (∀ i, i ≠ 35 → i ≠ 37 → X' 0 i = X 0 i) → T ≤ 17 → chE m (cmI m may o) o T → RcV X' m (cmI m may o) o T → Q (.inl none) (LX9 ++ r) X' Y) (hv : RcV X m (cmI m may o) o 0) : hX9_chart_57 Q r (nI 1) X Y := by
  have hC : ∀ a b, cmI m may o a b → a ≤ b ∧ b < m := fun a b h => ⟨h.1, h.2.1⟩
  have h1 : ∀ a, a < m → cmI m may o a a := fun a ha => cm_one hO ha
  have hs : stI (cmI m may o) 0 (m - 1) := ⟨cm_all hO h0, fun c d hcd => by have := hC _ _ hcd; omega⟩
  have H : ∀ n t X2, t + n = 2 * m - 1 → pdO m (cmI m may o) o t → (∀ x, x ∉ [0, 18, 19, 20, 21, 22, 23, 24] → X2 x = X x) → (∀ i, i ≠ 35 → i ≠ 37 → X2 0 i = X 0 i) → RcV X2 m (cmI m may o) o t → (∀ j, j < t → pdL m (cmI m may o) o j ≠ []) → hX9_chart_57 Q r (nI (pdL m (cmI m may o) o t).length) X2 Y := by
    intro n
    induction n with
    | zero =>
      intro t X2 ht hp f f0 hv hn
      have el : pdL m (cmI m may o) o t = [] := by
        refine Classical.byContradiction fun q => ?_
        have h2 := hp.2.1 q
        have := wtL_len (pdL m (cmI m may o) o t)
        have : 0 < (pdL m (cmI m may o) o t).length := List.length_pos_iff.mpr q
        omega
      rw [el]
      apply hX9_chart_57_i
      exact ⟨fun _ => k X2 t f f0 (by omega) ⟨el, hn⟩ hv, fun q => absurd (by decide) q⟩
    | succ n ih =>
      intro t X2 ht hp f f0 hv hn
      cases el : pdL m (cmI m may o) o t with
      | nil =>
        apply hX9_chart_57_i
        exact ⟨fun _ => k X2 t f f0 (by omega) ⟨el, hn⟩ hv, fun q => absurd (by decide) q⟩
      | cons e r0 =>
        obtain ⟨a, b, u⟩ := e
        have hst : stI (cmI m may o) a b := hp.1 (a, b, u) (by rw [el]; exact List.mem_cons_self)
        have bs : a ≤ b ∧ b < m := hC _ _ hst.1
        have w2 := hp.2.1 (by rw [el]; exact List.cons_ne_nil _ _)
        rw [el] at w2
        have w3 : t + (2 * (b - a) + 1 + wtL r0) ≤ 2 * m - 1 := w2
        have wl := wtL_len r0
        obtain ⟨e35, hdone, hpile⟩ := id hv
        rw [el] at hpile
        have n23 : X2 23 r0.length = nI (ivS m o a b) := (hpile 0 (a, b, u) rfl).1
        have n24 : X2 24 r0.length = zI u := (hpile 0 (a, b, u) rfl).2
        have v20 : vp_in (nI t) 20 := (m_in (by omega)).mpr (by omega)
        have v40 : vp_in (nI r0.length) 40 := (m_in (by omega)).mpr (by omega)
        have ct : (nI t).toNatClampNeg = t := m_clamp (by omega)
        have cr : (nI r0.length).toNatClampNeg = r0.length := m_clamp (by omega)
        have em : nI (r0.length + 1) + (-1) = nI r0.length := by simp (disch := omega) only [m_0, m_L0, m_lt, m_le, m_eq, m_neg, m_in, m_clamp, m_add, m_sub, m_pred, m_mul, m_l, m_i, m_Land, m_Lor, m_and, m_or, m_xor, m_Landn, m_andn, m_LshlP, m_shl, m_LbitP, m_bit, m_cmp0P, m_Lb0, m_Lb1, m_b0, m_b1, Nat.one_mul, Nat.add_sub_cancel]
        have hd := pd_hd el
        apply hX9_chart_57_i
        show (nI (r0.length + 1) ≤ 0 → _) ∧ _
        refine ⟨fun q => absurd q (fun q => by
          have q : nI (r0.length + 1) ≤ nI 0 := q
          rw [m_le (by omega) (by omega)] at q; omega), fun _ => ?_⟩
        show vp_in (nI (r0.length + 1) + (-1)) 40 ∧ _
        rw [show ((a, b, u) :: r0).length = r0.length + 1 from rfl]
        rw [em, e35, ct, cr, up2_out (X := X2) (show (24 : Nat) ≠ 18 by omega), n23, n24]
        rw [up2_out (X := up2 X2 18 t (nI (ivS m o a b))) (show (0 : Nat) ≠ 19 by omega), up2_out (X := X2) (show (0 : Nat) ≠ 18 by omega), e35, m_add]
        rw [show up2 (up2 (up2 X2 18 t (nI (ivS m o a b))) 19 t (zI u)) 0 35 (nI (t + 1)) 18 t = nI (ivS m o a b) by rw [up2_row (by omega), up2_row (by omega), up2_same]]
        obtain ⟨X3, hX3⟩ : ∃ X3, X3 = up2 (up2 (up2 X2 18 t (nI (ivS m o a b))) 19 t (zI u)) 0 35 (nI (t + 1)) := ⟨_, rfl⟩
        have f3 : ∀ x, x ≠ 0 → x ≠ 18 → x ≠ 19 → X3 x = X2 x := fun x h0 h18 h19 => by rw [hX3, up2_row h0, up2_row h19, up2_row h18]
        have g3 : ∀ i, i ≠ 35 → X3 0 i = X2 0 i := fun i hi => by rw [hX3, up2_idx hi, up2_row (by omega), up2_row (by omega)]
        rw [← hX3]
        refine ⟨v40, v20, v40, v20, v20, ?_⟩
        have T17 : BsV X3 17 m (stS m may) := (hT7.of (f 17 (by decide))).of (f3 17 (by omega) (by omega) (by omega))
        have T16 : BsV X3 16 m (sbP m may) := (hT6.of (f 16 (by decide))).of (f3 16 (by omega) (by omega) (by omega))
        refine X9_parts_s hm hO bs.1 bs.2 T17 (fun X4 c pb pe f4 g4 h37 c9 hE hpv => cK0_mk ⟨v20, ?_⟩)
        rw [h37]
        refine X9_turns_s (pb := pb) (pe := pe) hm hO bs.1 bs.2 ((T16.of (f4 16 (by omega) (by omega))).of (by rw [up2_row (by omega)])) c9 (by rw [up2_out (by omega)]; exact h37) hE (fun i hi => by rw [up2_row (by omega)]; exact hpv i hi) (fun z hz => cK1_mk ?_)
        have x37 : up2 X4 20 t (nI c) 0 37 = nI c := by rw [up2_out (by omega)]; exact h37
        -- behind the kind
        have rest : ∀ X5 pb5 pe5, (∀ x, x ≠ 22 → X5 x = up2 (up2 X4 20 t (nI c)) 21 t (nI (kdN (cmI m may o) a b)) x) → SPp m (cmI m may o) o a b c pb5 pe5 → PsV X5 m o c pb5 pe5 → hX9_chart_174 Q r (nI r0.length) (nI t) (nI c - nI 1) X5 Y := by
          intro X5 pb5 pe5 f5 sp5 pv5
          have sq := srt_eq hO hC sp5
          have cl := spp_c hC bs.1 bs.2 sp5
          have po := pdO_s hO hC el sp5 hp
          have lk := kids_len hO hC sp5 u t
          have wk := kids_wt hO hC bs.1 bs.2 sp5 u t
          have wl2 := wtL_len (kids m (cmI m may o) o (a, b, u) t)
          refine X9_push_s (f := fun i => nI (ivS m o (pb5 i) (pe5 i))) (by omega) (by omega) pv5 (fun X6 f6 g6 w6 => ?_)
          have y6 : ∀ x, x ≠ 18 → x ≠ 19 → x ≠ 20 → x ≠ 21 → x ≠ 22 → x ≠ 23 → x ≠ 24 → x ≠ 0 → X6 x = X2 x := fun x q1 q2 q3 q4 q5 q6 q7 q8 => by
            rw [f6 x q6 q7, f5 x q5, up2_row q4, up2_row q3, f4 x q8 q5, f3 x q8 q1 q2]
          have z6 : ∀ i, X6 0 i = X4 0 i := fun i => by rw [f6 0 (by omega) (by omega), f5 0 (by omega), up2_row (by omega), up2_row (by omega)]
          have len : (pdL m (cmI m may o) o (t + 1)).length = r0.length + c := by rw [po.1, List.length_append, lk]; omega
          rw [← len]
          refine ih (t + 1) X6 (by omega) po.2 (fun x hx => ?_) (fun i h35 h37 => by rw [z6, g4 i h37, g3 i h35]; exact f0 i h35 h37) ⟨?_, fun x hx => ?_, fun y e he => ?_⟩ (fun j hj => ?_)
          · simp only [List.mem_cons, List.not_mem_nil, or_false, not_or] at hx
            rw [y6 x hx.2.1 hx.2.2.1 hx.2.2.2.1 hx.2.2.2.2.1 hx.2.2.2.2.2.1 hx.2.2.2.2.2.2.1 hx.2.2.2.2.2.2.2 hx.1]
            exact f x (by simp; omega)
          · rw [z6, g4 35 (by omega), hX3]; exact up2_same
          · rw [f6 18 (by omega) (by omega), f6 19 (by omega) (by omega), f6 20 (by omega) (by omega), f6 21 (by omega) (by omega), f5 18 (by omega), f5 19 (by omega), f5 20 (by omega), f5 21 (by omega), up2_row (show (18 : Nat) ≠ 21 by omega), up2_row (show (18 : Nat) ≠ 20 by omega), up2_row (show (19 : Nat) ≠ 21 by omega), up2_row (show (19 : Nat) ≠ 20 by omega), up2_row (show (20 : Nat) ≠ 21 by omega), f4 18 (by omega) (by omega), f4 19 (by omega) (by omega), hX3]
            by_cases e : x = t
            · rw [e, hd]
              refine ⟨?_, ?_, ?_, ?_⟩
              · rw [up2_row (by omega), up2_row (by omega), up2_same]
              · rw [up2_row (by omega), up2_same]
              · rw [up2_same, sq.1]
              · rw [up2_same]
            · obtain ⟨p1, p2, p3, p4⟩ := hdone x (by omega)
              refine ⟨?_, ?_, ?_, ?_⟩
              · rw [up2_row (by omega), up2_row (by omega), up2_idx e]; exact p1
              · rw [up2_row (by omega), up2_idx e, up2_row (by omega)]; exact p2
              · rw [up2_idx e, f4 20 (by omega) (by omega), f3 20 (by omega) (by omega) (by omega)]; exact p3
              · rw [up2_idx e, up2_row (by omega), f4 21 (by omega) (by omega), f3 21 (by omega) (by omega) (by omega)]; exact p4
          · rw [len]
            have yl : y < r0.length + c := by rw [← len]; exact (List.getElem?_eq_some_iff.mp he).1
            rw [po.1, kids_at hO hC sp5] at he
            by_cases q : y < c
            · rw [if_pos q] at he
              have he : (pb5 y, pe5 y, (t : Int)) = e := Option.some.inj he
              rw [← he]
              obtain ⟨p1, p2⟩ := w6 (c - 1 - y) (by omega)
              rw [show r0.length + c - 1 - y = r0.length + (c - 1 - y) by omega, p1, p2, show c - 1 - (c - 1 - y) = y by omega]
              exact ⟨rfl, rfl⟩
            · rw [if_neg q] at he
              have p := hpile (y - c + 1) e he
              rw [show r0.length + c - 1 - y = ((a, b, u) :: r0).length - 1 - (y - c + 1) by show _ = r0.length + 1 - 1 - (y - c + 1); omega]
              have il : ((a, b, u) :: r0).length - 1 - (y - c + 1) < r0.length := by show r0.length + 1 - 1 - (y - c + 1) < r0.length; omega
              rw [g6 23 _ il, g6 24 _ il, f5 23 (by omega), f5 24 (by omega), up2_row (by omega), up2_row (by omega), up2_row (by omega), up2_row (by omega), f4 23 (by omega) (by omega), f4 24 (by omega) (by omega), f3 23 (by omega) (by omega) (by omega), f3 24 (by omega) (by omega) (by omega)]
              exact p
          · by_cases e : j = t
            · rw [e, el]; exact List.cons_ne_nil _ _
            · exact hn j (by omega)
        have go : ∀ v : Int32, v = nI (kdN (cmI m may o) a b) → (vp_in (nI t) 20 ∧ ((((up2 (up2 X4 20 t (nI c)) 21 t v) 0 37) ≤ 0 → hX9_chart_174 Q r (nI r0.length) (nI t) (((up2 (up2 X4 20 t (nI c)) 21 t v) 0 37) - (nI 1)) (up2 (up2 X4 20 t (nI c)) 21 t v) Y) ∧ (¬ (((up2 (up2 X4 20 t (nI c)) 21 t v) 0 37) ≤ 0) → tX9_sortParts [.ref 0, .int (nI z.toNat)] (LX9 ++ r) (up2 (up2 X4 20 t (nI c)) 21 t v) Y (cK0 (LX9 ++ r) Q (fun X7 Y7 => hX9_chart_174 Q r (nI r0.length) (nI t) ((X7 0 37) - (nI 1)) X7 Y7))))) := fun v hvv => by
          subst hvv
          have y37 : up2 (up2 X4 20 t (nI c)) 21 t (nI (kdN (cmI m may o) a b)) 0 37 = nI c := by rw [up2_out (by omega)]; exact x37
          have pv0 : PsV (up2 (up2 X4 20 t (nI c)) 21 t (nI (kdN (cmI m may o) a b))) m o c pb pe := fun i hi => by rw [up2_row (by omega), up2_row (by omega)]; exact hpv i hi
          rw [y37]
          refine ⟨v20, fun q => ?_, fun q => ?_⟩
          · have c0 : c = 0 := by
              have q : nI c ≤ nI 0 := q
              rw [m_le (by omega) (by omega)] at q; omega
            subst c0
            exact rest _ pb pe (fun _ _ => rfl) ⟨hE.1, fun i j _ h => by omega⟩ pv0
          · have c1 : 1 ≤ c := Nat.pos_of_ne_zero (fun e => q (by rw [e]; decide))
            refine X9_sort_s (pb := pb) (pe := pe) hm c9 c1 hO bs.1 bs.2 (fun p hp => by rw [up2_row (by omega), up2_row (by omega), f4 13 (by omega) (by omega), f3 13 (by omega) (by omega) (by omega), f 13 (by decide)]; exact hL p hp) y37 hz hE pv0 (fun X7 pb7 pe7 f7 sp7 pv7 => cK0_mk ?_)
            rw [f7 0 (by omega), y37]
            exact rest X7 pb7 pe7 f7 sp7 pv7
        rw [x37]
        have c0i : nI c = 0 ↔ c = 0 := m_eq (a := c) (b := 0) (by omega) (by omega)
        rw [c0i]
        refine ⟨fun q => ⟨fun q2 => go _ ?_, fun q2 => go _ ?_⟩, fun q => go _ ?_⟩
        · have nab : a ≠ b := fun e => by
            subst e
            exact Pq_none hC (hE.at (i := 0) (by omega))
          unfold kdN
          rw [cif_n nab, cif_n (fun y => by rw [hz.mpr y] at q2; exact absurd q2 (by decide))]
        · have nab : a ≠ b := fun e => by
            subst e
            exact Pq_none hC (hE.at (i := 0) (by omega))
          unfold kdN
          rw [cif_n nab, cif_y (hz.mp (z11 q2))]
        · have eab : a = b := Classical.byContradiction fun e => by
            obtain ⟨p, e', pq, -, -⟩ := Pq_cover hC h1 (show a < b by omega) bs.2 (x := a) ⟨Nat.le_refl _, by omega⟩
            obtain ⟨j, hj, -⟩ := (hE.1 _ _).mp pq
            have := Classical.not_not.mp q
            omega
          unfold kdN
          rw [cif_y eab]
  exact H (2 * m - 1) 0 X (by omega) (pdO_0 h0 hs) (fun _ _ => rfl) (fun _ _ _ => rfl) hv (fun j hj => by omega)
end Drw9
