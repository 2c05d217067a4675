/-! the chart by the reference: TURNS, and PARTS in order -/
/-- some of the parts together -/
def unF (f : Nat → Nat) (W : Nat) : Nat → Nat
  | 0 => 0
  | i + 1 => if W.testBit i = true then unF f W i ||| f i else unF f W i
theorem un_bit {f : Nat → Nat} {W t : Nat} : ∀ {i : Nat}, Bs (unF f W i) t ↔ ∃ j, j < i ∧ W.testBit j = true ∧ Bs (f j) t
  | 0 => ⟨fun q => by simp [unF, Bs] at q, fun ⟨j, hj, _⟩ => by omega⟩
  | i + 1 => by
    have ih := un_bit (f := f) (W := W) (t := t) (i := i)
    by_cases w : W.testBit i = true
    · have e : unF f W (i + 1) = unF f W i ||| f i := if_pos w
      rw [e]
      show (unF f W i ||| f i).testBit t = true ↔ _
      rw [Nat.testBit_or, Bool.or_eq_true]
      constructor
      · rintro (q | q)
        · obtain ⟨j, h1, h2, h3⟩ := ih.mp q; exact ⟨j, by omega, h2, h3⟩
        · exact ⟨i, by omega, w, q⟩
      · rintro ⟨j, h1, h2, h3⟩
        by_cases e : j = i
        · subst e; exact Or.inr h3
        · exact Or.inl (ih.mpr ⟨j, by omega, h2, h3⟩)
    · have e : unF f W (i + 1) = unF f W i := if_neg w
      rw [e, ih]
      exact ⟨fun ⟨j, h1, h2, h3⟩ => ⟨j, by omega, h2, h3⟩, fun ⟨j, h1, h2, h3⟩ => ⟨j, by have : j ≠ i := fun e => w (e ▸ h2); omega, h2, h3⟩⟩
theorem un_lt {f : Nat → Nat} {W k : Nat} {i : Nat} (h : ∀ j, j < i → f j < 2 ^ k) : unF f W i < 2 ^ k := lt_of_bits (fun t ht => by
  obtain ⟨j, h1, -, h3⟩ := un_bit.mp (show Bs (unF f W i) t from ht)
  exact bit_lt (h j h1) h3)
theorem cnt_two {W : Nat} (h : 2 ≤ cnt W) : ∃ i j, i ≠ j ∧ W.testBit i = true ∧ W.testBit j = true := by
  have h0 : W ≠ 0 := fun e => by rw [e, cnt_0] at h; omega
  obtain ⟨i, hi⟩ := ne0_bit h0
  refine Classical.byContradiction fun q => ?_
  rw [cnt_sz] at h
  have h1 : gSz (Bs W) 64 ≤ gSz (fun v => i ≤ v ∧ v ≤ i) 64 := gSz_le (fun v hv => by
    have : v = i := Classical.byContradiction fun e => q ⟨i, v, fun z => e z.symm, hi, hv⟩
    omega)
  rw [gSz_iv (Nat.le_refl _)] at h1
  omega
theorem two_cnt {W i j : Nat} (hij : i ≠ j) (hi : W.testBit i = true) (hj : W.testBit j = true) (i64 : i < 64) (j64 : j < 64) : 2 ≤ cnt W := by
  rw [cnt_sz]
  have h1 : gSz (fun v => (i ≤ v ∧ v ≤ i) ∨ (j ≤ v ∧ v ≤ j)) 64 ≤ gSz (Bs W) 64 := gSz_le (fun v hv => by
    rcases hv with q | q
    · have : v = i := by omega
      rw [this]; exact hi
    · have : v = j := by omega
      rw [this]; exact hj)
  rw [gSz_two (fun x h1 h2 => by omega), gSz_iv (Nat.le_refl _), gSz_iv (Nat.le_refl _)] at h1
  omega
theorem full_ex {W c : Nat} (h : W < 2 ^ c) (h2 : W ≠ 2 ^ c - 1) : ∃ j, j < c ∧ ¬ W.testBit j = true := Classical.byContradiction fun q => h2 (Nat.eq_of_testBit_eq fun i => by
  rw [Nat.testBit_two_pow_sub_one]
  by_cases e : i < c
  · rw [decide_eq_true e]
    exact Classical.byContradiction fun w => q ⟨i, e, w⟩
  · rw [decide_eq_false e]
    exact Nat.testBit_lt_two_pow (Nat.lt_of_lt_of_le h (Nat.pow_le_pow_right (by omega) (by omega))))
section TuU
variable {m : Nat} {may : Nat → Nat → Prop} {o : Nat → Nat} {a b c : Nat} {pb pe : Nat → Nat}
theorem tu_un1 (hO : LyN m may m o) (hb : b < m) (hE : EnP (cmI m may o) a b c pb pe) {W : Nat} (hW : W < 2 ^ c) (hF : W ≠ 2 ^ c - 1) (h2 : 2 ≤ cnt W) (hs : sbP m may (unF (fun i => ivS m o (pb i) (pe i)) W c)) : tuP (cmI m may o) a b := by
  have hC : ∀ a b, cmI m may o a b → a ≤ b ∧ b < m := fun a b h => ⟨h.1, h.2.1⟩
  have bd : ∀ j, j < c → pb j ≤ pe j ∧ pe j < m := fun j hj => hC _ _ (hE.at hj).1.1
  have dj : ∀ i j, i < c → j < c → i ≠ j → pe i < pb j ∨ pe j < pb i := fun i j hi hj hne => by
    rcases Pq_disj hC (hE.at hi) (hE.at hj) with q | q
    · exact absurd (hE.2 i j hi hj q.1) hne
    · exact q
  obtain ⟨i, j, hij, wi, wj⟩ := cnt_two h2
  have ic := bit_lt hW wi
  have jc := bit_lt hW wj
  have U0 : unF (fun i => ivS m o (pb i) (pe i)) W c ≠ 0 := fun e => by
    have : Bs (unF (fun i => ivS m o (pb i) (pe i)) W c) (o (pb i)) := un_bit.mpr ⟨i, ic, wi, (iv_at hO (bd i ic).2 (by have := bd i ic; omega)).mpr ⟨Nat.le_refl _, (bd i ic).1⟩⟩
    rw [e] at this; simp [Bs] at this
  obtain ⟨x, d, xd, dm, eU⟩ := sb_iv hO (un_lt (fun j _ => iv_lt)) U0 hs
  have mem : ∀ y, y < m → ((x ≤ y ∧ y ≤ d) ↔ ∃ l, l < c ∧ W.testBit l = true ∧ pb l ≤ y ∧ y ≤ pe l) := fun y hy => by
    rw [← iv_at hO dm hy, ← eU, un_bit]
    exact ⟨fun ⟨l, l1, l2, l3⟩ => ⟨l, l1, l2, (iv_at hO (bd l l1).2 hy).mp l3⟩, fun ⟨l, l1, l2, l3⟩ => ⟨l, l1, l2, (iv_at hO (bd l l1).2 hy).mpr l3⟩⟩
  obtain ⟨u, ⟨u1, u2⟩, u3⟩ := g_min (fun l => l < c ∧ W.testBit l = true) (fun l => pb l) i ⟨ic, wi⟩
  obtain ⟨v, ⟨v1, v2⟩, v3⟩ := g_min (fun l => l < c ∧ W.testBit l = true) (fun l => m - pb l) i ⟨ic, wi⟩
  have bu := bd u u1
  have bv := bd v v1
  have ex : x = pb u := by
    obtain ⟨l, l1, l2, l3, l4⟩ := (mem x (by omega)).mp ⟨Nat.le_refl _, xd⟩
    have := u3 l ⟨l1, l2⟩
    have := (mem (pb u) (by omega)).mpr ⟨u, u1, u2, Nat.le_refl _, bu.1⟩
    omega
  have ed : d = pe v := by
    obtain ⟨l, l1, l2, l3, l4⟩ := (mem d dm).mp ⟨xd, Nat.le_refl _⟩
    have h5 := v3 l ⟨l1, l2⟩
    have h6 := (mem (pe v) bv.2).mpr ⟨v, v1, v2, bv.1, Nat.le_refl _⟩
    have bl := bd l l1
    by_cases e : l = v
    · subst e; omega
    · have := dj l v l1 v1 e
      omega
  have huv : pb u < pb v := by
    have q1 := u3 v ⟨v1, v2⟩
    refine Nat.lt_of_le_of_ne q1 (fun e => ?_)
    have p1 := u3 i ⟨ic, wi⟩
    have p2 := u3 j ⟨jc, wj⟩
    have p3 := v3 i ⟨ic, wi⟩
    have p4 := v3 j ⟨jc, wj⟩
    have bi := bd i ic
    have bj := bd j jc
    exact hij (hE.2 i j ic jc (by omega))
  refine ⟨pb u, pe u, pb v, pe v, hE.at u1, hE.at v1, huv, fun q => ?_, by rw [← ex, ← ed]; exact ⟨xd, dm, by rw [← eU]; exact hs⟩⟩
  obtain ⟨l, l1, l2⟩ := full_ex hW hF
  have pl := hE.at l1
  have bl := bd l l1
  have := pl.2.1
  have := pl.2.2.1
  obtain ⟨w, w1, w2, w3, w4⟩ := (mem (pb l) (by omega)).mp ⟨by omega, by omega⟩
  by_cases e : l = w
  · subst e; exact l2 w2
  · have := dj l w l1 w1 e
    omega
theorem tu_un2 (hO : LyN m may m o) (hab : a < b) (hb : b < m) (c9 : c ≤ 9) (hE : EnP (cmI m may o) a b c pb pe) (ht : tuP (cmI m may o) a b) : 3 ≤ c ∧ ∃ W, W ≠ 0 ∧ W < 2 ^ c - 1 ∧ 2 ≤ cnt W ∧ sbP m may (unF (fun i => ivS m o (pb i) (pe i)) W c) := by
  have hC : ∀ a b, cmI m may o a b → a ≤ b ∧ b < m := fun a b h => ⟨h.1, h.2.1⟩
  have bd : ∀ j, j < c → pb j ≤ pe j ∧ pe j < m := fun j hj => hC _ _ (hE.at hj).1.1
  have cov := fun (x : Nat) (hx : a ≤ x ∧ x ≤ b) => Pq_cover hC (fun a ha => cm_one hO ha) hab hb hx
  obtain ⟨p, e, p', e', h1, h2, h3, h4, h5⟩ := ht
  obtain ⟨i, ic, i1, i2⟩ := (hE.1 _ _).mp h1
  obtain ⟨j, jc, j1, j2⟩ := (hE.1 _ _).mp h2
  have b1 := hC _ _ h1.1.1
  have b2 := hC _ _ h2.1.1
  have hd : e < p' := by have := Pq_disj hC h1 h2; omega
  have wb : ∀ l, (bmk (fun l => decide (p ≤ pb l ∧ pe l ≤ e')) c).testBit l = true ↔ l < c ∧ p ≤ pb l ∧ pe l ≤ e' := fun l => by
    rw [bmk_bit, Bool.and_eq_true, decide_eq_true_eq, decide_eq_true_eq]
  have hij : i ≠ j := fun q => by subst q; omega
  have out : ∃ l, l < c ∧ ¬ (p ≤ pb l ∧ pe l ≤ e') := by
    by_cases q : p = a
    · obtain ⟨x, y, xy, x1, x2⟩ := cov b ⟨by omega, Nat.le_refl _⟩
      obtain ⟨l, lc, l1, l2⟩ := (hE.1 _ _).mp xy
      exact ⟨l, lc, fun z => h4 ⟨q, by have := h2.2.2.1; have := xy.2.2.1; omega⟩⟩
    · obtain ⟨x, y, xy, x1, x2⟩ := cov a ⟨Nat.le_refl _, by omega⟩
      obtain ⟨l, lc, l1, l2⟩ := (hE.1 _ _).mp xy
      exact ⟨l, lc, fun z => by have := h1.2.1; omega⟩
  obtain ⟨l, lc, lo⟩ := out
  have ne1 : l ≠ i := fun q => lo (by subst q; omega)
  have ne2 : l ≠ j := fun q => lo (by subst q; omega)
  have w1 := (wb i).mpr ⟨ic, by omega, by omega⟩
  have w2 := (wb j).mpr ⟨jc, by omega, by omega⟩
  have wl := bmk_lt (fun l => decide (p ≤ pb l ∧ pe l ≤ e')) c
  refine ⟨by omega, bmk (fun l => decide (p ≤ pb l ∧ pe l ≤ e')) c, fun q => by rw [q] at w1; simp at w1, ?_, two_cnt hij w1 w2 (by omega) (by omega), ?_⟩
  · have : bmk (fun l => decide (p ≤ pb l ∧ pe l ≤ e')) c ≠ 2 ^ c - 1 := fun q => lo ((wb l).mp (by rw [q, Nat.testBit_two_pow_sub_one]; exact decide_eq_true lc)).2
    omega
  · have eU : unF (fun i => ivS m o (pb i) (pe i)) (bmk (fun l => decide (p ≤ pb l ∧ pe l ≤ e')) c) c = ivS m o p e' := Nat.eq_of_testBit_eq fun t => by
      refine Bool.eq_iff_iff.mpr (Iff.trans (un_bit (f := fun i => ivS m o (pb i) (pe i)) (t := t)) (Iff.trans ?_ (iv_bit (m := m) (o := o) (a := p) (b := e') (t := t)).symm))
      constructor
      · rintro ⟨l, l1, l2, l3⟩
        obtain ⟨l4, x, x1, x2, x3⟩ := iv_bit.mp l3
        have := (wb l).mp l2
        exact ⟨l4, x, by omega, by omega, x3⟩
      · rintro ⟨t1, x, x1, x2, x3⟩
        have g1 := h1.2.1
        have g2 := h2.2.2.1
        obtain ⟨u, v, uv, y1, y2⟩ := cov x ⟨by omega, by omega⟩
        obtain ⟨l, lc, l1, l2⟩ := (hE.1 _ _).mp uv
        have d1 := Pq_disj hC uv h1
        have d2 := Pq_disj hC uv h2
        exact ⟨l, lc, (wb l).mpr ⟨lc, by omega, by omega⟩, iv_bit.mpr ⟨t1, x, by omega, by omega, x3⟩⟩
    rw [eU]; exact h5.2.2
end TuU
section Tur9
variable {X X' : HX} {Y Y' : HY} {r : Ly} {Q : Qt} {m : Nat} {may : Nat → Nat → Prop} {o : Nat → Nat} {a b c : Nat} {pb pe : Nat → Nat}
theorem X9_turns_s (hm : m ≤ 9) (hO : LyN m may m o) (hab : a ≤ b) (hb : b < m) (hT : BsV X 16 m (sbP m may)) (c9 : c ≤ 9) (h37 : X 0 37 = nI c) (hE : EnP (cmI m may o) a b c pb pe) (hv : PsV X m o c pb pe) (k : ∀ z : Bool, (z = true ↔ tuP (cmI m may o) a b) → Q (.inl (some (.int (nI z.toNat)))) (LX9 ++ r) X Y) : tX9_turns [.ref 0] (LX9 ++ r) X Y Q := by
  have hC : ∀ a b, cmI m may o a b → a ≤ b ∧ b < m := fun a b h => ⟨h.1, h.2.1⟩
  have T9 := pw9 hm
  have W0 := Nat.two_pow_pos c
  have W9 : 2 ^ c ≤ 512 := pw9 c9
  have hlt : tuP (cmI m may o) a b → a < b := fun t => by
    obtain ⟨p, e, p', e', h1, h2, h3, -, -⟩ := t
    have b1 := hC _ _ h1.1.1
    have b2 := hC _ _ h2.1.1
    have := h1.2.1
    have := h2.2.2.1
    omega
  apply tX9_turns_i
  rw [h37, m_le (by omega) (by omega)]
  refine ⟨fun c3 => ?_, fun c3 => ⟨(by first | exact Or.inl rfl | exact Or.inr rfl | exact Or.inl trivial | exact Or.inr trivial), k false ⟨fun e => (by cases e), fun t => absurd (tu_un2 hO (hlt t) hb c9 hE t).1 c3⟩⟩⟩
  have yes : tuP (cmI m may o) a b → Q (.inl (some (.int (nI 1)))) (LX9 ++ r) X Y := fun t => k true ⟨fun _ => t, fun _ => rfl⟩
  have H : ∀ n W, W + n = 2 ^ c - 1 → W ≠ 0 → (∀ V, V ≠ 0 → V < W → 2 ≤ cnt V → ¬ sbP m may (unF (fun i => ivS m o (pb i) (pe i)) V c)) → hX9_turns_12 Q r (nI W) X Y := by
    intro n
    induction n with
    | zero =>
      intro W hW _ no
      apply hX9_turns_12_i
      rw [h37, show (((nI 1) <<< ((nI c) &&& 31)) - (nI 1)) = nI (2 ^ c - 1) by simp (disch := omega) only [m_0, m_L0, m_lt, m_le, m_eq, m_neg, m_in, m_clamp, m_add, m_sub, m_pred, m_mul, m_l, m_i, m_Land, m_Lor, m_and, m_or, m_xor, m_Landn, m_andn, m_LshlP, m_shl, m_LbitP, m_bit, m_cmp0P, m_Lb0, m_Lb1, m_b0, m_b1, Nat.one_mul], m_le (by omega) (by omega)]
      refine ⟨fun _ => ⟨(by first | exact Or.inl rfl | exact Or.inr rfl | exact Or.inl trivial | exact Or.inr trivial), k false ⟨fun e => (by cases e), fun t => ?_⟩⟩, fun q => absurd (by omega) q⟩
      obtain ⟨-, V, v0, v1, v2, v3⟩ := tu_un2 hO (hlt t) hb c9 hE t
      exact absurd v3 (no V v0 (by omega) v2)
    | succ n ih =>
      intro W hW W0' no
      have nx : (2 ≤ cnt W → ¬ sbP m may (unF (fun i => ivS m o (pb i) (pe i)) W c)) → hX9_turns_12 Q r (nI (W + 1)) X Y := fun hn => ih (W + 1) (by omega) (by omega) (fun V v0 v1 v2 => by
        by_cases e : V = W
        · subst e; exact hn v2
        · exact no V v0 (by omega) v2)
      have cl := cnt_le W
      apply hX9_turns_12_i
      rw [h37, show (((nI 1) <<< ((nI c) &&& 31)) - (nI 1)) = nI (2 ^ c - 1) by simp (disch := omega) only [m_0, m_L0, m_lt, m_le, m_eq, m_neg, m_in, m_clamp, m_add, m_sub, m_pred, m_mul, m_l, m_i, m_Land, m_Lor, m_and, m_or, m_xor, m_Landn, m_andn, m_LshlP, m_shl, m_LbitP, m_bit, m_cmp0P, m_Lb0, m_Lb1, m_b0, m_b1, Nat.one_mul], m_le (by omega) (by omega)]
      refine ⟨fun q => absurd q (by omega), fun _ => bc32 (by omega) (cK1_mk ?_)⟩
      rw [m_le (by omega) (by omega), m_add]
      refine ⟨fun q2 => ?_, fun q2 => nx (fun y => absurd y q2)⟩
      have G : ∀ u i, i + u = c → hX9_turns_39 Q r (nI W) (nI (unF (fun i => ivS m o (pb i) (pe i)) W i)) (nI i) X Y := by
        intro u
        induction u with
        | zero =>
          intro i hi
          have ei : i = c := by omega
          subst ei
          have ul : unF (fun i => ivS m o (pb i) (pe i)) W i < 2 ^ m := un_lt (fun j _ => iv_lt)
          have u0 : unF (fun i => ivS m o (pb i) (pe i)) W i ≠ 0 := fun e => by
            obtain ⟨x, y, xy, wx, wy⟩ := cnt_two q2
            have xc := bit_lt (show W < 2 ^ i by omega) wx
            have bx := hC _ _ (hE.at xc).1.1
            have : Bs (unF (fun i => ivS m o (pb i) (pe i)) W i) (o (pb x)) := un_bit.mpr ⟨x, xc, wx, (iv_at hO bx.2 (by omega)).mpr ⟨Nat.le_refl _, bx.1⟩⟩
            rw [e] at this; simp [Bs] at this
          have et := hT.z u0 ul
          apply hX9_turns_39_i
          rw [h37, m_le (by omega) (by omega), m_clamp (by omega), m_add]
          refine ⟨fun _ => ⟨(m_in (by omega)).mpr (by omega), fun y => nx (fun _ => et.mp y), fun y => ⟨(by first | exact Or.inl rfl | exact Or.inr rfl | exact Or.inl trivial | exact Or.inr trivial), yes (tu_un1 hO hb hE (by omega) (by omega) q2 (Classical.byContradiction fun z => y (et.mpr z)))⟩⟩, fun y => absurd (Nat.le_refl _) y⟩
        | succ u ihu =>
          intro i hi
          have i1 := ihu (i + 1) (by omega)
          apply hX9_turns_39_i
          simp (disch := omega) only [m_0, m_L0, m_lt, m_le, m_eq, m_neg, m_in, m_clamp, m_add, m_sub, m_pred, m_mul, m_l, m_i, m_Land, m_Lor, m_and, m_or, m_xor, m_Landn, m_andn, m_LshlP, m_shl, m_LbitP, m_bit, m_cmp0P, m_Lb0, m_Lb1, m_b0, m_b1, Nat.one_mul, h37, hv i (by omega)]
          refine ⟨fun y => by omega, fun _ => ⟨fun y => ?_, fun y => ⟨by omega, ?_⟩⟩⟩
          · have e : unF (fun i => ivS m o (pb i) (pe i)) W (i + 1) = unF (fun i => ivS m o (pb i) (pe i)) W i := if_neg y
            rw [e] at i1; exact i1
          · have e : unF (fun i => ivS m o (pb i) (pe i)) W (i + 1) = unF (fun i => ivS m o (pb i) (pe i)) W i ||| ivS m o (pb i) (pe i) := if_pos (Classical.not_not.mp y)
            rw [e] at i1; exact i1
      exact G c 0 (by omega)
  have W2 : 2 ^ 1 ≤ 2 ^ c := Nat.pow_le_pow_right (by omega) (by omega)
  have W3 : (2 : Nat) ^ 1 = 2 := rfl
  exact H (2 ^ c - 1 - 1) 1 (by omega) (by omega) (fun V v0 v1 => by omega)
theorem lo_512 : ∀ S : Nat, S < 512 → nI S &&& (-(nI S)) = nI (nAn S (S - 1)) := by decide +kernel
theorem X9_leastOf_s {p e : Nat} {L : Ly} (hm : m ≤ 9) (hO : LyN m may m o) (hpe : p ≤ e) (he : e < m) (k : Q (.inl (some (.int (nI (2 ^ lsT o p e))))) L X Y) : tX9_leastOf [.int (nI (ivS m o p e))] L X Y Q := by
  have T9 := pw9 hm
  have il := iv_lt (m := m) (o := o) (a := p) (b := e)
  have i0 := iv_ne hO hpe he
  obtain ⟨l, l1, l2, -, l4⟩ := low_of (m := ivS m o p e) (by omega)
  apply tX9_leastOf_i
  rw [lo_512 _ (by omega), l4, low_ls hO hpe he l1 l2]
  exact k
theorem X9_begins_s {p e : Nat} (hm : m ≤ 9) (hO : LyN m may m o) (hL : ∀ p, p < m → X 13 p = nI (o p)) (hpe : p ≤ e) (he : e < m) (k : Q (.inl (some (.int (nI p)))) (LX9 ++ r) X Y) : tX9_begins [.ref 0, .int (nI (ivS m o p e))] (LX9 ++ r) X Y Q := by
  have T9 := pw9 hm
  have il := iv_lt (m := m) (o := o) (a := p) (b := e)
  apply tX9_begins_i
  have H : ∀ n i, i + n = p → hX9_begins_2 Q r (nI (ivS m o p e)) (nI i) X Y := by
    intro n
    induction n with
    | zero =>
      intro i hi
      have ei : i = p := by omega
      subst ei
      have ho := (hO i (by omega)).1
      have hb : (ivS m o i e).testBit (o i) = true := (iv_at hO he (by omega)).mpr ⟨Nat.le_refl _, hpe⟩
      apply hX9_begins_2_i
      simp (disch := omega) only [m_0, m_L0, m_lt, m_le, m_eq, m_neg, m_in, m_clamp, m_add, m_sub, m_pred, m_mul, m_l, m_i, m_Land, m_Lor, m_and, m_or, m_xor, m_Landn, m_andn, m_LshlP, m_shl, m_LbitP, m_bit, m_cmp0P, m_Lb0, m_Lb1, m_b0, m_b1, Nat.one_mul, hL i (by omega)]
      exact ⟨by omega, fun _ => k, fun y => absurd (by rw [hb]; simp) y⟩
    | succ n ih =>
      intro i hi
      have ho := (hO i (by omega)).1
      have hb : (ivS m o p e).testBit (o i) = false := by
        cases q : (ivS m o p e).testBit (o i)
        · rfl
        · have := (iv_at hO he (by omega)).mp (show Bs (ivS m o p e) (o i) from q); omega
      apply hX9_begins_2_i
      simp (disch := omega) only [m_0, m_L0, m_lt, m_le, m_eq, m_neg, m_in, m_clamp, m_add, m_sub, m_pred, m_mul, m_l, m_i, m_Land, m_Lor, m_and, m_or, m_xor, m_Landn, m_andn, m_LshlP, m_shl, m_LbitP, m_bit, m_cmp0P, m_Lb0, m_Lb1, m_b0, m_b1, Nat.one_mul, hL i (by omega)]
      exact ⟨by omega, fun y => absurd hb y, fun _ => ih (i + 1) (by omega)⟩
  exact H p 0 (by omega)
end Tur9
