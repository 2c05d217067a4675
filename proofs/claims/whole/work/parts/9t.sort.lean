/-! the chart by the class: PARTS put in order, and in behind their node -/
section Srt8
variable {Q : Qt} {r : Ly} {X : HX} {Y : HY} {m : Nat} {C : Nat → Nat → Prop} {a b c : Nat} {pb pe o : Nat → Nat} {may : Nat → Nat → Prop}
theorem X1_swap_s {i j : Nat} (hi : i < 9) (hj : j < 9) (hij : i ≠ j) (k : ∀ X', (∀ x, x ≠ 8 → x ≠ 9 → x ≠ 10 → X' x = X x) → (∀ y x, (y = 8 ∨ y = 9 ∨ y = 10) → X' y x = X y (swF i j x)) → Q (.inl none) (LX1 ++ r) X' Y) : tX1_swapParts [.ref 0, .int (nI i), .int (nI j)] (LX1 ++ r) X Y Q := by
  have vi : vp_in (nI i) 9 := (m_in (by omega)).mpr hi
  have vj : vp_in (nI j) 9 := (m_in (by omega)).mpr hj
  apply tX1_swapParts_i
  rw [m_clamp (show i < 2147483648 by omega), m_clamp (show j < 2147483648 by omega), up2_out (X := X) (show (9 : Nat) ≠ 8 by omega), up2_out (X := up2 X 8 i (X 8 j)) (show (10 : Nat) ≠ 9 by omega), up2_out (X := X) (show (10 : Nat) ≠ 8 by omega)]
  refine ⟨vi, vi, vi, vj, vi, vj, vi, vj, vi, vj, vj, vj, k _ (fun x h8 h9 h10 => ?_) (fun y x hy => ?_)⟩
  · rw [up2_row h10, up2_row h9, up2_row h8, up2_row h10, up2_row h9, up2_row h8]
  · unfold swF
    rcases hy with rfl | rfl | rfl
    · rw [up2_row (by omega), up2_row (by omega), up2_at, up2_row (by omega), up2_row (by omega), up2_at]
      by_cases e1 : x = i
      · rw [if_pos e1, if_neg (by omega), if_pos e1]
      · rw [if_neg e1, if_neg e1]
        by_cases e2 : x = j
        · rw [if_pos e2, if_pos e2]
        · rw [if_neg e2, if_neg e2]
    · rw [up2_row (by omega), up2_at, up2_row (by omega), up2_row (by omega), up2_at, up2_row (by omega)]
      by_cases e1 : x = i
      · rw [if_pos e1, if_neg (by omega), if_pos e1]
      · rw [if_neg e1, if_neg e1]
        by_cases e2 : x = j
        · rw [if_pos e2, if_pos e2]
        · rw [if_neg e2, if_neg e2]
    · rw [up2_at, up2_row (by omega), up2_row (by omega), up2_at, up2_row (by omega), up2_row (by omega)]
      by_cases e1 : x = i
      · rw [if_pos e1, if_neg (by omega), if_pos e1]
      · rw [if_neg e1, if_neg e1]
        by_cases e2 : x = j
        · rw [if_pos e2, if_pos e2]
        · rw [if_neg e2, if_neg e2]
theorem PaV.sw {X' : HX} {i j : Nat} (h : PaV X o c pb pe) (hi : i < c) (hj : j < c) (e : ∀ y x, (y = 8 ∨ y = 9 ∨ y = 10) → X' y x = X y (swF i j x)) : PaV X' o c (fun x => pb (swF i j x)) (fun x => pe (swF i j x)) := fun x hx => by
  have lt : swF i j x < c := by unfold swF; split <;> (try split) <;> omega
  rw [e 8 x (by omega), e 9 x (by omega), e 10 x (by omega)]
  exact h _ lt
theorem X1_sort1 (hm : m ≤ 9) (c9 : c ≤ 9) (hO : LyN m may m o) (hC : ∀ a b, C a b → a ≤ b ∧ b < m) (h12 : X 0 12 = nI c) (hE : EnP C a b c pb pe) (hv : PaV X o c pb pe) (k : ∀ X' pb' pe', (∀ x, x ≠ 8 → x ≠ 9 → x ≠ 10 → X' x = X x) → EnP C a b c pb' pe' → PaV X' o c pb' pe' → (∀ x y, x < y → y < c → lsT o (pb' x) (pe' x) < lsT o (pb' y) (pe' y)) → Q (.inl none) (LX1 ++ r) X' Y) : hX1_sortParts_7 Q r (nI 0) X Y := by
  have H : ∀ n i X2 pb2 pe2, i + n = c → (∀ x, x ≠ 8 → x ≠ 9 → x ≠ 10 → X2 x = X x) → EnP C a b c pb2 pe2 → PaV X2 o c pb2 pe2 → (∀ x y, x < y → y < c → x < i → lsT o (pb2 x) (pe2 x) < lsT o (pb2 y) (pe2 y)) → hX1_sortParts_7 Q r (nI i) X2 Y := by
    intro n
    induction n with
    | zero =>
      intro i X2 pb2 pe2 hi f hE2 hv2 hs
      apply hX1_sortParts_7_i
      rw [f 0 (by omega) (by omega) (by omega), h12, m_le (by omega) (by omega)]
      exact ⟨fun _ => k X2 pb2 pe2 f hE2 hv2 (fun x y h1 h2 => hs x y h1 h2 (by omega)), fun q => absurd (by omega) q⟩
    | succ n ih =>
      intro i X2 pb2 pe2 hi f hE2 hv2 hs
      apply hX1_sortParts_7_i
      rw [f 0 (by omega) (by omega) (by omega), h12, m_le (by omega) (by omega), m_add]
      refine ⟨fun q => absurd q (by omega), fun _ => ?_⟩
      have G : ∀ u j X3 pb3 pe3, j + u = c → i < j → (∀ x, x ≠ 8 → x ≠ 9 → x ≠ 10 → X3 x = X x) → EnP C a b c pb3 pe3 → PaV X3 o c pb3 pe3 → (∀ x y, x < y → y < c → x < i → lsT o (pb3 x) (pe3 x) < lsT o (pb3 y) (pe3 y)) → (∀ y, i < y → y < j → lsT o (pb3 i) (pe3 i) < lsT o (pb3 y) (pe3 y)) → hX1_sortParts_19 Q r (nI i) (nI j) X3 Y := by
        intro u
        induction u with
        | zero =>
          intro j X3 pb3 pe3 hj hij f3 hE3 hv3 hs3 hg
          apply hX1_sortParts_19_i
          rw [f3 0 (by omega) (by omega) (by omega), h12, m_le (by omega) (by omega)]
          refine ⟨fun _ => ?_, fun q => absurd (by omega) q⟩
          rw [m_add]
          refine ih (i + 1) X3 pb3 pe3 (by omega) f3 hE3 hv3 (fun x y h1 h2 h3 => ?_)
          by_cases e : x = i
          · subst e; exact hg y h1 (by omega)
          · exact hs3 x y h1 h2 (by omega)
        | succ u ihu =>
          intro j X3 pb3 pe3 hj hij f3 hE3 hv3 hs3 hg
          have pi := hE3.at (i := i) (by omega)
          have pj := hE3.at (i := j) (by omega)
          have bi := hC _ _ pi.1.1
          have bj := hC _ _ pj.1.1
          have li := ls_lt hO bi.1 bi.2
          have lj := ls_lt hO bj.1 bj.2
          apply hX1_sortParts_19_i
          rw [f3 0 (by omega) (by omega) (by omega), h12, m_le (by omega) (by omega), m_clamp (show i < 2147483648 by omega), m_clamp (show j < 2147483648 by omega), (hv3 i (by omega)).2.2, (hv3 j (by omega)).2.2, m_le (by omega) (by omega), m_add j 1]
          refine ⟨fun q => absurd q (by omega), fun _ => ⟨(m_in (by omega)).mpr (by omega), (m_in (by omega)).mpr (by omega), fun q => ?_, fun q => ?_⟩⟩
          · refine ihu (j + 1) X3 pb3 pe3 (by omega) (by omega) f3 hE3 hv3 hs3 (fun y h1 h2 => ?_)
            by_cases e : y = j
            · subst e
              refine Nat.lt_of_le_of_ne q (fun e => ?_)
              have := hE3.2 i y (by omega) (by omega) (ls_inj hO hC pi pj e).1
              omega
            · exact hg y h1 (by omega)
          · refine X1_swap_s (by omega) (by omega) (by omega) (fun X4 f4 e4 => cK0_mk ?_)
            have si : swF i j i = j := by unfold swF; rw [if_pos rfl]
            have sj : swF i j j = i := by unfold swF; rw [if_neg (by omega), if_pos rfl]
            have so : ∀ x, x ≠ i → x ≠ j → swF i j x = x := fun x h1 h2 => by unfold swF; rw [if_neg h1, if_neg h2]
            refine ihu (j + 1) X4 _ _ (by omega) (by omega) (fun x h8 h9 h10 => (f4 x h8 h9 h10).trans (f3 x h8 h9 h10)) (hE3.sw (i := i) (j := j) (by omega) (by omega)) (hv3.sw (by omega) (by omega) e4) (fun x y h1 h2 h3 => ?_) (fun y h1 h2 => ?_)
            · show lsT o (pb3 (swF i j x)) (pe3 (swF i j x)) < lsT o (pb3 (swF i j y)) (pe3 (swF i j y))
              rw [so x (by omega) (by omega)]
              by_cases y1 : y = i
              · rw [y1, si]; exact hs3 x j (by omega) (by omega) h3
              · by_cases y2 : y = j
                · rw [y2, sj]; exact hs3 x i (by omega) (by omega) h3
                · rw [so y y1 y2]; exact hs3 x y h1 h2 h3
            · show lsT o (pb3 (swF i j i)) (pe3 (swF i j i)) < lsT o (pb3 (swF i j y)) (pe3 (swF i j y))
              rw [si]
              by_cases y2 : y = j
              · rw [y2, sj]; omega
              · rw [so y (by omega) y2]
                have := hg y h1 (by omega)
                omega
      exact G (c - (i + 1)) (i + 1) X2 pb2 pe2 (by omega) (by omega) f hE2 hv2 hs (fun y h1 h2 => by omega)
  exact H c 0 X pb pe (by omega) (fun _ _ _ _ => rfl) hE hv (fun x y _ _ h => by omega)
theorem X1_sort2 (hm : m ≤ 9) (c9 : c ≤ 9) (c2 : 2 ≤ c) (h12 : X 0 12 = nI c) (hv : PaV X o c pb pe) (k : ∀ X', (∀ x, x ≠ 8 → x ≠ 9 → x ≠ 10 → X' x = X x) → PaV X' o c (fun x => pb (c - 1 - x)) (fun x => pe (c - 1 - x)) → Q (.inl none) (LX1 ++ r) X' Y) : hX1_sortParts_90 Q r (nI 0) X Y := by
  have H : ∀ n i X2, i + n = c / 2 → (∀ x, x ≠ 8 → x ≠ 9 → x ≠ 10 → X2 x = X x) → (∀ y x, (y = 8 ∨ y = 9 ∨ y = 10) → x < c → X2 y x = X y (if x < i ∨ c - 1 - x < i then c - 1 - x else x)) → hX1_sortParts_90 Q r (nI i) X2 Y := by
    intro n
    induction n with
    | zero =>
      intro i X2 hi f e
      apply hX1_sortParts_90_i
      rw [f 0 (by omega) (by omega) (by omega), h12, m_div (by omega) (by omega) (by omega), m_le (by omega) (by omega)]
      refine ⟨by decide, fun _ => k X2 f (fun x hx => ?_), fun q => absurd (by omega) q⟩
      have ee : (if x < i ∨ c - 1 - x < i then c - 1 - x else x) = c - 1 - x := by split <;> omega
      rw [e 8 x (by omega) hx, e 9 x (by omega) hx, e 10 x (by omega) hx, ee]
      exact hv _ (by omega)
    | succ n ih =>
      intro i X2 hi f e
      apply hX1_sortParts_90_i
      rw [f 0 (by omega) (by omega) (by omega), h12, m_div (by omega) (by omega) (by omega), m_le (by omega) (by omega), m_sub (by omega), m_sub (by omega)]
      refine ⟨by decide, fun q => absurd q (by omega), fun _ => X1_swap_s (by omega) (by omega) (by omega) (fun X4 f4 e4 => cK0_mk ?_)⟩
      rw [m_add]
      refine ih (i + 1) X4 (by omega) (fun x h8 h9 h10 => (f4 x h8 h9 h10).trans (f x h8 h9 h10)) (fun y x hy hx => ?_)
      rw [e4 y x hy]
      have lt : swF i (c - 1 - i) x < c := by unfold swF; split <;> (try split) <;> omega
      rw [e y _ hy lt]
      congr 1
      unfold swF
      by_cases e1 : x = i
      · rw [if_pos e1, if_neg (by omega), if_pos (by omega)]; omega
      · rw [if_neg e1]
        by_cases e2 : x = c - 1 - i
        · rw [if_pos e2, if_neg (by omega), if_pos (by omega)]; omega
        · rw [if_neg e2]
          by_cases e3 : x < i ∨ c - 1 - x < i
          · rw [if_pos e3, if_pos (by omega)]
          · rw [if_neg e3, if_neg (by omega)]
  exact H (c / 2) 0 X (by omega) (fun _ _ _ _ => rfl) (fun y x _ hx => by rw [if_neg (by omega)])
theorem X1_sort_s (hm : m ≤ 9) (c9 : c ≤ 9) (hO : LyN m may m o) (hC : ∀ a b, C a b → a ≤ b ∧ b < m) (h12 : X 0 12 = nI c) (hp : (c = 0 ∧ a = b) ∨ (a < b ∧ PLc C a b c pb pe)) (hv : PaV X o c pb pe) (k : ∀ X' pb' pe', (∀ x, x ≠ 8 → x ≠ 9 → x ≠ 10 → X' x = X x) → SPp m C o a b c pb' pe' → PaV X' o c pb' pe' → Q (.inl none) (LX1 ++ r) X' Y) : tX1_sortParts [.ref 0, .int (nI (kdN C a b))] (LX1 ++ r) X Y Q := by
  apply tX1_sortParts_i
  rcases hp with ⟨rfl, e⟩ | ⟨hab, hp⟩
  · subst e
    have e0 : kdN C a a = 0 := by unfold kdN; rw [cif_y rfl]
    rw [e0]
    exact ⟨fun _ => ⟨fun _ => k X pb pe (fun _ _ _ _ => rfl) ⟨fun p e => ⟨fun q => absurd q (fun q => Pq_none hC q), fun ⟨i, hi, _⟩ => by omega⟩, fun i j _ h => by omega⟩ hv, fun q => absurd (by decide) q⟩, fun q => absurd (by decide) q⟩
  have c2 := hp.two hC
  have hE := hp.en hC
  by_cases t : tuP C a b
  · have e0 : kdN C a b = 2 := by unfold kdN; rw [cif_n (by omega), cif_y t]
    rw [e0]
    have p0 := hE.at (i := 0) (by omega)
    have p1 := hE.at (i := c - 1) (by omega)
    have b0 := hC _ _ p0.1.1
    have b1 := hC _ _ p1.1.1
    have l0 := ls_lt hO b0.1 b0.2
    have l1 := ls_lt hO b1.1 b1.2
    refine ⟨fun _ => ⟨fun q => absurd rfl q, fun _ => ?_⟩, fun q => absurd (by decide) q⟩
    rw [h12, m_sub (by omega), m_clamp (by omega), m_clamp (by omega), (hv 0 (by omega)).2.2, (hv (c - 1) (by omega)).2.2, m_le (by omega) (by omega)]
    refine ⟨(m_in (by omega)).mpr (by omega), (m_in (by omega)).mpr (by omega), fun q => ?_, fun q => ?_⟩
    · have z0 : Pq C a b a (pe 0) := by have := p0; rw [hp.2.1] at this; exact this
      have z1 : Pq C a b (pb (c - 1)) b := by have := p1; rw [hp.2.2.2.1] at this; exact this
      have w0 : lsT o a (pe 0) = lsT o (pb 0) (pe 0) := by rw [hp.2.1]
      have w1 : lsT o (pb (c - 1)) b = lsT o (pb (c - 1)) (pe (c - 1)) := by rw [hp.2.2.2.1]
      have hd : dirP C o a b := ⟨pe 0, pb (c - 1), z0, z1, by
        rw [w0, w1]
        refine Nat.lt_of_le_of_ne q (fun e => ?_)
        have := hE.2 0 (c - 1) (by omega) (by omega) (ls_inj hO hC p0 p1 e).1
        omega⟩
      refine k X pb pe (fun _ _ _ _ => rfl) ⟨hE.1, fun i j hij hj => ?_⟩ hv
      unfold kyP
      rw [cif_y t, cif_y t, cif_y hd, cif_y hd]
      have := hp.lt hC hij hj
      have := hp.le hC (i := i) (by omega)
      omega
    · have hd : ¬ dirP C o a b := fun ⟨e, p, d1, d2, d3⟩ => by
        have q1 := Pq_disj hC d1 p0
        have q2 := Pq_disj hC d2 p1
        have z1 := hp.2.1
        have z2 := hp.2.2.2.1
        have w1 := hC _ _ d1.1.1
        have w2 := hC _ _ d2.1.1
        have r1 : e = pe 0 := by omega
        have r2 : p = pb (c - 1) := by omega
        rw [r1, r2, ← z1, ← z2] at d3
        omega
      refine X1_sort2 hm c9 c2 h12 hv (fun X4 f4 v4 => k X4 _ _ f4 ⟨fun p e => (hE.1 p e).trans ⟨fun ⟨i, hi, q1, q2⟩ => ⟨c - 1 - i, by omega, ?_, ?_⟩, fun ⟨i, hi, q1, q2⟩ => ⟨c - 1 - i, by omega, q1, q2⟩⟩, fun i j hij hj => ?_⟩ v4)
      · show pb (c - 1 - (c - 1 - i)) = p; rw [show c - 1 - (c - 1 - i) = i by omega]; exact q1
      · show pe (c - 1 - (c - 1 - i)) = e; rw [show c - 1 - (c - 1 - i) = i by omega]; exact q2
      · unfold kyP
        rw [cif_y t, cif_y t, cif_n hd, cif_n hd]
        have h1 := hp.lt hC (i := c - 1 - j) (j := c - 1 - i) (by omega) (by omega)
        have h2 := hp.le hC (i := c - 1 - j) (by omega)
        have h3 := hC _ _ (hp.2.2.2.2 (c - 1 - i) (by omega)).1.1
        show m - pb (c - 1 - i) < m - pb (c - 1 - j)
        omega
  · have e0 : kdN C a b = 1 := by unfold kdN; rw [cif_n (by omega), cif_n t]
    rw [e0]
    refine ⟨fun q => absurd rfl q, fun _ => X1_sort1 hm c9 hO hC h12 hE hv (fun X4 pb4 pe4 f4 hE4 v4 s4 => k X4 pb4 pe4 f4 ⟨hE4.1, fun i j hij hj => ?_⟩ v4)⟩
    unfold kyP
    rw [cif_n t, cif_n t]
    exact s4 i j hij hj
end Srt8
