/-! the greatest MOMENT of a LIST, by the reference; what falls apart without one -/
section Grt9
variable {X X' : HX} {Y Y' : HY} {r : Ly} {Q : Qt} {l : Ls}
def grI (l : Ls) (R g : Nat) : Prop := R < 2 ^ l.1 ∧ g ≤ 60 ∧ (gCh (Eo l.2) (Bs R) ↔ lsC l) ∧ (∀ K : Nat → Prop, (∀ v, K v → lsS l v) → gCl (Eo l.2) K → gSz K 64 ≤ g ∨ ∀ v, K v → Bs R v) ∧ (g = 0 ∨ ∃ K : Nat → Prop, (∀ v, K v → lsS l v) ∧ gCl (Eo l.2) K ∧ gSz K 64 = g)
theorem gSz_0 {P : Nat → Prop} (h : ∀ v, ¬ P v) : ∀ n, gSz P n = 0
  | 0 => rfl
  | n + 1 => by
    simp only [gSz]
    rw [gSz_0 h n, if_neg (h n)]
theorem grI_end {g : Nat} (h : grI l 0 g) : lsC l ∧ lsG l = g := by
  obtain ⟨h1, h2, h3, h4, h5⟩ := h
  have z : ∀ v, ¬ Bs 0 v := fun v hv => by simp [Bs] at hv
  refine ⟨h3.mp (fun T hT ⟨x, hx⟩ => absurd (hT x hx) (z x)), lsG_eq ⟨?_, fun K k1 k2 => ?_⟩⟩
  · rcases h5 with rfl | h5
    · exact ⟨fun _ => False, fun v hv => hv.elim, fun a b ha => ha.elim, gSz_0 (fun _ h => h) 64⟩
    · exact h5
  · rcases h4 K k1 k2 with q | q
    · exact q
    · rw [gSz_0 (fun v hv => z v (q v hv)) 64]; exact Nat.zero_le _
theorem grI_del {R g i : Nat} (hl : lsI l) (h : grI l R g) (hi : Bs R i) (hs : gSimp (Eo l.2) (Bs R) i) (hc : cnt (l.2 i &&& R) + 1 ≤ 60) : grI l (nAn R (2 ^ i)) (max g (cnt (l.2 i &&& R) + 1)) := by
  obtain ⟨h1, h2, h3, h4, h5⟩ := h
  obtain ⟨l60, lG, lB, lM⟩ := hl
  have ir : ∀ a, ¬ Eo l.2 a a := fun a e => (lG a a e).2.2.1 rfl
  have sy : ∀ a b, Eo l.2 a b → Eo l.2 b a := fun a b e => (lG a b e).2.2.2
  have bn : ∀ u, Bs (l.2 i &&& R) u ↔ Eo l.2 i u ∧ Bs R u := fun u => by
    show (l.2 i &&& R).testBit u = true ↔ _
    rw [Nat.testBit_and, Bool.and_eq_true]; exact Iff.rfl
  have bd : ∀ u, Bs (nAn R (2 ^ i)) u ↔ Bs R u ∧ u ≠ i := fun u => by
    show (nAn R (2 ^ i)).testBit u = true ↔ _
    rw [nAn_bit, Nat.testBit_two_pow, Bool.and_eq_true, Bool.not_eq_true', decide_eq_false_iff_not]
    exact ⟨fun q => ⟨q.1, fun e => q.2 e.symm⟩, fun q => ⟨q.1, fun e => q.2 e.symm⟩⟩
  have iG := bit_lt h1 hi
  have fR : ∀ v, Bs R v → lsS l v := fun v hv => bs_full.mpr (bit_lt h1 hv)
  have ed : Bs (nAn R (2 ^ i)) = fun u => Bs R u ∧ u ≠ i := funext fun u => propext (bd u)
  have nK : gSz (fun u => Bs (l.2 i &&& R) u ∨ u = i) 64 = cnt (l.2 i &&& R) + 1 := by
    rw [cnt_sz]
    exact gSz_add (P := Bs (l.2 i &&& R)) (w := i) (fun q => ir i ((bn i).mp q).1) (fun v => Iff.rfl) (by omega)
  refine ⟨Nat.lt_of_le_of_lt (nAn_le _ _) h1, by omega, ?_, fun K k1 k2 => ?_, Or.inr ?_⟩
  · rw [ed, ch_del hi hs]; exact h3
  · rcases h4 K k1 k2 with q | q
    · exact Or.inl (by omega)
    · by_cases ki : K i
      · left
        have : gSz K 64 ≤ gSz (fun u => Bs (l.2 i &&& R) u ∨ u = i) 64 := gSz_le (fun v hv => by
          by_cases e : v = i
          · exact Or.inr e
          · exact Or.inl ((bn v).mpr ⟨k2 i v ki hv (fun z => e z.symm), q v hv⟩))
        omega
      · exact Or.inr (fun v hv => (bd v).mpr ⟨q v hv, fun e => ki (e ▸ hv)⟩)
  · by_cases q : g ≤ cnt (l.2 i &&& R) + 1
    · refine ⟨fun u => Bs (l.2 i &&& R) u ∨ u = i, fun v hv => ?_, fun a b ha hb hne => ?_, by rw [nK]; omega⟩
      · rcases hv with hv | rfl
        · exact fR v ((bn v).mp hv).2
        · exact fR v hi
      · rcases ha with ha | rfl
        · rcases hb with hb | rfl
          · have a1 := (bn a).mp ha
            have b1 := (bn b).mp hb
            rcases hs a b a1.2 b1.2 a1.1 b1.1 with e | e
            · exact absurd e hne
            · exact e
          · exact sy _ _ ((bn a).mp ha).1
        · rcases hb with hb | rfl
          · exact ((bn b).mp hb).1
          · exact absurd rfl hne
    · rcases h5 with h5 | ⟨K, k1, k2, k3⟩
      · omega
      · exact ⟨K, k1, k2, by rw [k3]; omega⟩
theorem X9_greatest_s (hl : lsI l) (h260 : X 1 260 = nI l.1) (hr : ∀ i, i < 60 → Y 3 i = lN (l.2 i)) (k : Q (rI (cif (lsC l) (nI (lsG l)) (-1))) (LX9 ++ r) X Y) : tX9_greatest [.ref 0] (LX9 ++ r) X Y Q := by
  obtain ⟨l60, lG, lB, lM⟩ := id hl
  have T0 := Nat.two_pow_pos l.1
  have T60 : 2 ^ l.1 ≤ 2 ^ 60 := Nat.pow_le_pow_right (by omega) l60
  have T60' : (2 : Nat) ^ 60 = 1152921504606846976 := by decide
  have v0 : vp_in (nI 260) 262 := (m_in (by omega)).mpr (by omega)
  have c0 : (nI 260).toNatClampNeg = 260 := m_clamp (by omega)
  have fin : ∀ g, grI l 0 g → Q (.inl (some (.int (nI g)))) (LX9 ++ r) X Y := fun g hg => by
    obtain ⟨q1, q2⟩ := grI_end hg
    rw [cif_y q1, q2] at k; exact k
  apply tX9_greatest_i
  rw [c0, h260, show ((lN 1) <<< ((nI l.1).toInt64 &&& 63)) - (lN 1) = lN (2 ^ l.1 - 1) by simp (disch := omega) only [m_0, m_L0, m_lt, m_le, m_eq, m_neg, m_in, m_clamp, m_add, m_sub, m_pred, m_mul, m_l, m_i, m_Land, m_Lor, m_and, m_or, m_xor, m_Landn, m_andn, m_LshlP, m_shl, m_LbitP, m_bit, m_cmp0P, m_Lb0, m_Lb1, m_b0, m_b1, Nat.one_mul, m_Lsub]]
  refine ⟨v0, ?_⟩
  have H : ∀ n R g, gSz (Bs R) 64 ≤ n → grI l R g → hX9_greatest_18 Q r (lN R) (nI g) (nI 1) X Y := by
    intro n
    induction n with
    | zero =>
      intro R g hn hg
      have z : R = 0 := eq0_bit (fun i => by
        cases h : R.testBit i
        · rfl
        · have iR := bit_lt hg.1 h
          have := gSz_lt (P := fun _ => False) (P' := Bs R) (n := 64) (w := i) (fun _ q => q.elim) (by omega) h (fun q => q); omega)
      subst z
      apply hX9_greatest_18_i
      have e0 : lg_cmp (lN 0) (lN 0) = 0 := m_cmp0.mpr rfl
      exact ⟨fun _ => ⟨fun q => absurd e0 q, fun _ => fin g hg⟩, fun q => absurd e0 q⟩
    | succ n ih =>
      intro R g hn hg
      have hR := hg.1
      have g60 := hg.2.1
      apply hX9_greatest_18_i
      rw [m_cmp0, m_Leq (by omega) (by omega)]
      refine ⟨fun q => ⟨fun y => absurd q y, fun _ => by subst q; exact fin g hg⟩, fun q => ⟨fun y => absurd y (by decide), fun _ => ?_⟩⟩
      -- one pass over the guests
      have G : ∀ m i, i + m = l.1 → (∀ u, u < i → Bs R u → ¬ gSimp (Eo l.2) (Bs R) u) → hX9_greatest_35 Q r (lN R) (nI g) (nI 0) (nI i) X Y := by
        intro m
        induction m with
        | zero =>
          intro i hi no
          apply hX9_greatest_35_i
          rw [c0, h260, m_le (by omega) (by omega)]
          refine ⟨v0, fun _ => ?_, fun y => absurd (by omega) y⟩
          apply hX9_greatest_18_i
          rw [m_cmp0, m_Leq (by omega) (by omega)]
          refine ⟨fun y => absurd y q, fun _ => ⟨fun _ => ⟨fun _ => ?_, fun y => absurd q y⟩, fun y => absurd rfl y⟩⟩
          have nc : ¬ lsC l := fun y => by
            obtain ⟨x, hx⟩ := ne0_bit q
            obtain ⟨w, w1, w2⟩ := hg.2.2.1.mpr y (Bs R) (fun _ z => z) ⟨x, hx⟩
            exact no w (by have := bit_lt hR w1; omega) w1 w2
          rw [cif_n nc] at k; exact k
        | succ m ihm =>
          intro i hi no
          have i60 : i < 60 := by omega
          have v6 : vp_in (nI i) 60 := (m_in (by omega)).mpr (by omega)
          apply hX9_greatest_35_i
          rw [c0, h260, m_le (by omega) (by omega), m_l (show i < 2147483648 by omega), m_LbitP (show R < 9223372036854775808 by omega) (by omega), m_cmp0, m_clamp (show i < 2147483648 by omega), hr i i60, m_Land, m_add i 1]
          have eb : lN (nB R i) = lN 0 ↔ R.testBit i = false := m_Lb0
          rw [eb]
          have nx : ¬ (Bs R i ∧ gSimp (Eo l.2) (Bs R) i) → hX9_greatest_35 Q r (lN R) (nI g) (nI 0) (nI (i + 1)) X Y := fun hn => ihm (i + 1) (by omega) (fun u hu hb hsu => by
            by_cases e : u = i
            · subst e; exact hn ⟨hb, hsu⟩
            · exact no u (by omega) hb hsu)
          refine ⟨v0, fun y => absurd y (by omega), fun _ => ⟨fun y => absurd rfl y, fun _ => ⟨fun hb => ⟨v6, ?_⟩, fun hb => nx (fun y => ?_)⟩⟩⟩
          · have hbi : Bs R i := by
              show R.testBit i = true
              cases w : R.testBit i
              · exact absurd w hb
              · rfl
            have bn : ∀ u, Bs (l.2 i &&& R) u ↔ Eo l.2 i u ∧ Bs R u := fun u => by
              show (l.2 i &&& R).testBit u = true ↔ _
              rw [Nat.testBit_and, Bool.and_eq_true]; exact Iff.rfl
            have nR : l.2 i &&& R < 1152921504606846976 := Nat.lt_of_le_of_lt Nat.and_le_right (by omega)
            have ir : ∀ a, ¬ Eo l.2 a a := fun a e => (lG a a e).2.2.1 rfl
            -- each of the neighbours has met the others
            have K : ∀ t j (z : Bool), j + t = l.1 → (z = true ↔ ∀ u, u < j → Bs (l.2 i &&& R) u → ∀ w, Bs (l.2 i &&& R) w → u = w ∨ Eo l.2 u w) → hX9_greatest_84 Q r (lN R) (nI g) (nI 0) (nI i) (lN (l.2 i &&& R)) (nI z.toNat) (nI j) X Y := by
              intro t
              -- what follows a pass
              have fail : ∀ j, (∃ u, u < j ∧ Bs (l.2 i &&& R) u ∧ ∃ w, Bs (l.2 i &&& R) w ∧ ¬ (u = w ∨ Eo l.2 u w)) → hX9_greatest_35 Q r (lN R) (nI g) (nI 0) (nI (i + 1)) X Y := fun j ⟨u, u1, u2, w, w1, w2⟩ => nx (fun y => w2 (y.2 u w ((bn u).mp u2).2 ((bn w).mp w1).2 ((bn u).mp u2).1 ((bn w).mp w1).1))
              have good : (∀ u, Bs (l.2 i &&& R) u → ∀ w, Bs (l.2 i &&& R) w → u = w ∨ Eo l.2 u w) → tJ13_bitCount_95d88 [.long (lN (l.2 i &&& R))] (LX9 ++ r) X Y (cK1 (LX9 ++ r) Q (fun x3 X3 Y3 => (((nI 1) + x3) ≤ nI g → hX9_greatest_35 Q r (lN R &&& (((lN 1) <<< ((nI i).toInt64 &&& 63)) ^^^ (-1 : Int64))) (nI g) (nI 1) (nI i + nI 1) X3 Y3) ∧ (¬ (((nI 1) + x3) ≤ nI g) → hX9_greatest_35 Q r (lN R &&& (((lN 1) <<< ((nI i).toInt64 &&& 63)) ^^^ (-1 : Int64))) ((nI 1) + x3) (nI 1) (nI i + nI 1) X3 Y3))) := fun hall => by
                have hs : gSimp (Eo l.2) (Bs R) i := fun y z hy hz e1 e2 => hall y ((bn y).mpr ⟨e1, hy⟩) z ((bn z).mpr ⟨e2, hz⟩)
                have cN : cnt (l.2 i &&& R) + 1 ≤ 60 := by
                  have h1 : cnt (l.2 i &&& R) = gSz (Bs (l.2 i &&& R)) 64 := cnt_sz
                  have h2 := gSz_out (P := Bs (l.2 i &&& R)) (n := 60) (fun v hv => by have := bit_lt hR ((bn v).mp hv).2; omega) 4
                  have h3 := gSz_lt (P := Bs (l.2 i &&& R)) (P' := fun v => v < 60) (n := 60) (w := i) (fun v hv => by have := bit_lt hR ((bn v).mp hv).2; omega) i60 i60 (fun q => ir i ((bn i).mp q).1)
                  have h4 := gSz_bd (P := fun v => v < 60) (n := 60)
                  rw [show 60 + 4 = 64 from rfl] at h2
                  omega
                have gd := grI_del hl hg hbi hs cN
                have lt : gSz (Bs (nAn R (2 ^ i))) 64 ≤ n := by
                  have := cnt_rem (L := R) (x := i) hbi (by omega)
                  rw [cnt_sz, cnt_sz] at this
                  omega
                have back : ∀ g', g' = max g (cnt (l.2 i &&& R) + 1) → hX9_greatest_35 Q r (lN (nAn R (2 ^ i))) (nI g') (nI 1) (nI (i + 1)) X Y := fun g' hg' => by
                  have h18 := ih (nAn R (2 ^ i)) g' lt (by rw [hg']; exact gd)
                  apply hX9_greatest_35_i
                  exact ⟨v0, fun _ => h18, fun _ => ⟨fun _ => h18, fun y => absurd (by decide) y⟩⟩
                refine bc64 (by omega) (cK1_mk ?_)
                rw [m_add 1, m_le (by omega) (by omega), m_add i 1, show lN R &&& (((lN 1) <<< ((nI i).toInt64 &&& 63)) ^^^ (-1 : Int64)) = lN (nAn R (2 ^ i)) by simp (disch := omega) only [m_0, m_L0, m_lt, m_le, m_eq, m_neg, m_in, m_clamp, m_add, m_sub, m_pred, m_mul, m_l, m_i, m_Land, m_Lor, m_and, m_or, m_xor, m_Landn, m_andn, m_LshlP, m_shl, m_LbitP, m_bit, m_cmp0P, m_Lb0, m_Lb1, m_b0, m_b1, Nat.one_mul]]
                refine ⟨fun y => back g (by omega), fun y => ?_⟩
                have := back (1 + cnt (l.2 i &&& R)) (by omega)
                exact this
              induction t with
              | zero =>
                intro j z hj hz
                apply hX9_greatest_84_i
                rw [c0, h260, m_le (by omega) (by omega), m_add i 1]
                refine ⟨v0, fun _ => ⟨fun y => ?_, fun y => ?_⟩, fun y => absurd (by omega) y⟩
                · have gg := good (fun u hu => hz.mp (z11 y) u (by have := bit_lt hR ((bn u).mp hu).2; omega) hu)
                  rw [m_add i 1] at gg; exact gg
                · refine fail j (Classical.byContradiction fun w => ?_)
                  have : z = true := hz.mpr (fun u u1 u2 v v1 => Classical.byContradiction fun v2 => w ⟨u, u1, u2, v, v1, v2⟩)
                  rw [this] at y; exact y (by decide)
              | succ t iht =>
                intro j z hj hz
                have j60 : j < 60 := by omega
                have vj : vp_in (nI j) 60 := (m_in (by omega)).mpr (by omega)
                have jl : l.2 j < 1152921504606846976 := lM j
                apply hX9_greatest_84_i
                rw [c0, h260, m_le (by omega) (by omega), m_add i 1]
                refine ⟨v0, fun y => absurd y (by omega), fun _ => ⟨fun y => ⟨fun y2 => absurd y y2, fun _ => ?_⟩, fun y => ?_⟩⟩
                · refine fail j (Classical.byContradiction fun w => ?_)
                  have : z = true := hz.mpr (fun u u1 u2 v v1 => Classical.byContradiction fun v2 => w ⟨u, u1, u2, v, v1, v2⟩)
                  rw [this] at y; exact absurd y (by decide)
                · have al := hz.mp (z11 y)
                  rw [m_l (show j < 2147483648 by omega), m_LbitP (show l.2 i &&& R < 9223372036854775808 by omega) (by omega), m_cmp0, m_cmp0, m_clamp (show j < 2147483648 by omega), hr j j60, m_add j 1]
                  rw [show (lN (l.2 i &&& R) &&& ((lN (l.2 j)) ^^^ (-1 : Int64))) &&& (((lN 1) <<< (lN j &&& 63)) ^^^ (-1 : Int64)) = lN (nAn (nAn (l.2 i &&& R) (l.2 j)) (2 ^ j)) by simp (disch := omega) only [m_0, m_L0, m_lt, m_le, m_eq, m_neg, m_in, m_clamp, m_add, m_sub, m_pred, m_mul, m_l, m_i, m_Land, m_Lor, m_and, m_or, m_xor, m_Landn, m_andn, m_LshlP, m_shl, m_LbitP, m_bit, m_cmp0P, m_Lb0, m_Lb1, m_b0, m_b1, Nat.one_mul]]
                  have ebj : lN (nB (l.2 i &&& R) j) = lN 0 ↔ (l.2 i &&& R).testBit j = false := m_Lb0
                  have e0 : lN (nAn (nAn (l.2 i &&& R) (l.2 j)) (2 ^ j)) = lN 0 ↔ nAn (nAn (l.2 i &&& R) (l.2 j)) (2 ^ j) = 0 := m_Leq (Nat.lt_of_le_of_lt (nAn_le _ _) (Nat.lt_of_le_of_lt (nAn_le _ _) (by omega))) (by omega)
                  have en : nAn (nAn (l.2 i &&& R) (l.2 j)) (2 ^ j) = 0 ↔ ∀ w, Bs (l.2 i &&& R) w → j = w ∨ Eo l.2 j w := by
                    constructor
                    · intro q w hw
                      refine Classical.byContradiction fun w2 => ?_
                      have : (nAn (nAn (l.2 i &&& R) (l.2 j)) (2 ^ j)).testBit w = true := by
                        rw [nAn_bit, nAn_bit, Nat.testBit_two_pow, show (l.2 i &&& R).testBit w = true from hw]
                        have c1 : (l.2 j).testBit w = false := by
                          cases c : (l.2 j).testBit w
                          · rfl
                          · exact absurd (Or.inr c) w2
                        rw [c1, decide_eq_false (fun e => w2 (Or.inl e))]; rfl
                      rw [q] at this; simp at this
                    · intro q
                      refine eq0_bit (fun w => ?_)
                      rw [nAn_bit, nAn_bit, Nat.testBit_two_pow]
                      cases c : (l.2 i &&& R).testBit w
                      · rfl
                      · rcases q w c with e | e
                        · rw [decide_eq_true e]; simp
                        · rw [show (l.2 j).testBit w = true from e]; simp
                  rw [ebj, e0, en]
                  have n1 : ∀ w : Bool, (w = true ↔ ∀ u, u < j + 1 → Bs (l.2 i &&& R) u → ∀ w, Bs (l.2 i &&& R) w → u = w ∨ Eo l.2 u w) → hX9_greatest_84 Q r (lN R) (nI g) (nI 0) (nI i) (lN (l.2 i &&& R)) (nI w.toNat) (nI (j + 1)) X Y := fun w hw => iht (j + 1) w (by omega) hw
                  refine ⟨fun nb => n1 true ⟨fun _ u u1 u2 => ?_, fun _ => rfl⟩, fun nb => ⟨vj, fun nn => n1 false ⟨fun e => (by cases e), fun y => absurd (y j (by omega) ?_) nn⟩, fun nn => n1 true ⟨fun _ u u1 u2 => ?_, fun _ => rfl⟩⟩⟩
                  · by_cases e : u = j
                    · subst e; exact absurd (show (l.2 i &&& R).testBit u = true from u2) (by rw [nb]; simp)
                    · exact al u (by omega) u2
                  · show (l.2 i &&& R).testBit j = true
                    cases w : (l.2 i &&& R).testBit j
                    · exact absurd w nb
                    · rfl
                  · by_cases e : u = j
                    · subst e; exact Classical.not_not.mp nn
                    · exact al u (by omega) u2
            exact K l.1 0 true (by omega) ⟨fun _ u hu => by omega, fun _ => rfl⟩
          · have : R.testBit i = true := y.1
            exact hb (by rw [this]; simp)
      exact G l.1 0 (by omega) (fun u hu => by omega)
  have e1 : (1 : Int32) = nI 1 := rfl
  refine H 64 (2 ^ l.1 - 1) 0 (by have := gSz_bd (P := Bs (2 ^ l.1 - 1)) (n := 64); omega) ⟨by omega, by omega, Iff.rfl, fun K k1 _ => Or.inr k1, Or.inl rfl⟩
end Grt9
