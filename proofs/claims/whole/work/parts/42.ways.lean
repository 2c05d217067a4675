/-! ways, THE THREE and layable sets, by the class -/
theorem gSz_no {P : Nat → Prop} (h : ∀ v, ¬ P v) : ∀ {n : Nat}, gSz P n = 0
  | 0 => rfl
  | n + 1 => by
    simp only [gSz, gSz_no h (n := n), h n, if_false]
theorem idx_lt {w a b : Nat} (ha : a < w) (hb : b < w) : w * a + b < w * w := by
  have h1 : w * a + w ≤ w * w := by rw [← Nat.mul_succ]; exact Nat.mul_le_mul_left w ha
  omega
theorem idx_inj {w a b c d : Nat} (hb : b < w) (hd : d < w) (e : w * a + b = w * c + d) : a = c ∧ b = d := by
  have h0 : 0 < w := by omega
  have e1 : (w * a + b) / w = a := by rw [Nat.mul_add_div h0, Nat.div_eq_of_lt hb, Nat.add_zero]
  have e2 : (w * c + d) / w = c := by rw [Nat.mul_add_div h0, Nat.div_eq_of_lt hd, Nat.add_zero]
  have : a = c := by rw [← e1, e, e2]
  subst this
  exact ⟨rfl, by omega⟩
theorem sq60 {w : Nat} (h : w ≤ 60) : w * w ≤ 3600 := Nat.mul_le_mul h h
theorem nz_nz {z : Bool} (h : ¬ z = false) : z = true := by cases z; exact absurd rfl h; rfl
theorem lt60 {m : Nat} (h : ∀ i, m.testBit i = true → i < 60) : m < 1152921504606846976 := lt_of_bits (k := 60) h
theorem X4_reached_s {Q : Qt} {w : Nat} {r : Ly} {X : HX} {Y : HY} {M : Nat → Nat} {S a : Nat} (hV : VM w X Y M) (hG : GM w M) (hS : S < 1152921504606846976) (hSw : ∀ v, Bs S v → v < w) (ha : Bs S a)
    (k : ∀ R, R < 1152921504606846976 → (∀ v, Bs R v ↔ gRch (Eo M) (Bs S) a v) → Q (.inl (some (.long (lN R)))) (LX4 w ++ r) X Y) : tX4_reachedFrom [.ref 0, .int (nI a), .long (lN S)] (LX4 w ++ r) X Y Q := by
  have haw := hSw a ha
  obtain ⟨hw, hX, hM⟩ := hV
  apply tX4_reachedFrom_i
  have fin : ∀ R D, R < 1152921504606846976 → Bs R a → (∀ v, Bs R v → gRch (Eo M) (Bs S) a v) → (∀ v, Bs R v → ¬ Bs D v → ∀ u, Eo M v u → Bs S u → Bs R u) → (∀ v, Bs R v → ¬ Bs D v) → Q (.inl (some (.long (lN R)))) (LX4 w ++ r) X Y := by
    intro R D hR ha2 h1 h2 h3
    exact k R hR (fun v => ⟨h1 v, fun h => h (Bs R) ha2 (fun x y hx _ hy e => h2 x hx (h3 x hx) y e hy)⟩)
  have H : ∀ n j R D, j + n = w → R < 1152921504606846976 → (∀ v, Bs D v → Bs R v) → Bs R a → (∀ v, Bs R v → gRch (Eo M) (Bs S) a v) → (∀ v, Bs R v → ¬ Bs D v → ∀ u, Eo M v u → Bs S u → Bs R u) → gSz (fun v => Bs R v ∧ ¬ Bs D v) w = j → hX4_reachedFrom_12 Q w r (lN S) (lN R) (lN D) (nI j) X Y := by
    intro n
    induction n with
    | zero =>
      intro j R D hj hR hDR ha2 h1 h2 h3
      apply hX4_reachedFrom_12_i
      rw [hX]
      simp (disch := omega) only [m_0, m_L0, m_lt, m_le, m_eq, m_neg, m_in, m_clamp, m_add, m_sub, m_pred, m_mul, m_l, m_i, m_Land, m_Lor, m_and, m_or, m_xor, m_Landn, m_andn, m_LshlP, m_shl, m_LbitP, m_bit, m_cmp0P, m_Lb0, m_Lb1, m_b0, m_b1, Nat.one_mul]
      refine ⟨fun _ => ?_, fun h => by omega⟩
      exact fin R D hR ha2 h1 h2 (fun v hv => (gSz_full (P := fun v => Bs R v ∧ ¬ Bs D v) (n := w) (by rw [h3]; omega) v (hSw v (gRch.mem ha (h1 v hv)))).2)
    | succ n ih =>
      intro j R D hj hR hDR ha2 h1 h2 h3
      have hD : D < 1152921504606846976 := lt60 (fun i hi => bit_lt (k := 60) hR (hDR i hi))
      apply hX4_reachedFrom_12_i
      rw [hX]
      simp (disch := omega) only [m_0, m_L0, m_lt, m_le, m_eq, m_neg, m_in, m_clamp, m_add, m_sub, m_pred, m_mul, m_l, m_i, m_Land, m_Lor, m_and, m_or, m_xor, m_Landn, m_andn, m_LshlP, m_shl, m_LbitP, m_bit, m_cmp0P, m_Lb0, m_Lb1, m_b0, m_b1, Nat.one_mul]
      refine ⟨fun h => by omega, fun _ => ⟨fun hD0 => ?_, fun hD0 => ?_⟩⟩
      · rw [m_Leq (by omega) (by omega)] at hD0
        exact fin R D hR ha2 h1 h2 (fun v hv q => by rw [hD0] at q; simp [Bs] at q)
      · have hD1 : D ≠ 0 := fun q => hD0 (by rw [q])
        obtain ⟨l, hl, hlD, -, e1, e2⟩ := m_low (Nat.pos_of_ne_zero hD1) (by omega)
        have hlR : Bs R l := hDR l hlD
        have hlw : l < w := hSw l (gRch.mem ha (h1 l hlR))
        rw [e1]
        refine bc64 (by have := Nat.pow_lt_pow_right (a := 2) (by omega) (show l < 63 from hl); omega) (cK1_mk ?_)
        rw [cnt_low ⟨l, by omega⟩, hX, e2]
        have b1 : (M l &&& S) < 1152921504606846976 := Nat.lt_of_le_of_lt Nat.and_le_left (hM l hlw).2
        simp (disch := omega) only [m_0, m_L0, m_lt, m_le, m_eq, m_neg, m_in, m_clamp, m_add, m_sub, m_pred, m_mul, m_l, m_i, m_Land, m_Lor, m_and, m_or, m_xor, m_Landn, m_andn, m_LshlP, m_shl, m_LbitP, m_bit, m_cmp0P, m_Lb0, m_Lb1, m_b0, m_b1, Nat.one_mul, (hM l hlw).1]
        refine ⟨fun h => by omega, fun _ => ⟨hlw, ?_⟩⟩
        have bm : ∀ v, (nAn (M l &&& S) R).testBit v = true ↔ Eo M l v ∧ Bs S v ∧ ¬ Bs R v := fun v => by
          rw [nAn_bit, Nat.testBit_and]
          simp only [Bool.and_eq_true, Bool.not_eq_true', Eo, Bs, Bool.not_eq_true]
          exact and_assoc
        have bR : ∀ v, Bs (R ||| nAn (M l &&& S) R) v ↔ Bs R v ∨ (Eo M l v ∧ Bs S v ∧ ¬ Bs R v) := fun v => by
          show (R ||| nAn (M l &&& S) R).testBit v = true ↔ _
          rw [Nat.testBit_or, Bool.or_eq_true, bm]; rfl
        have bD : ∀ v, Bs (nAn D (2 ^ l) ||| nAn (M l &&& S) R) v ↔ (Bs D v ∧ v ≠ l) ∨ (Eo M l v ∧ Bs S v ∧ ¬ Bs R v) := fun v => by
          show (nAn D (2 ^ l) ||| nAn (M l &&& S) R).testBit v = true ↔ _
          rw [Nat.testBit_or, Bool.or_eq_true, bm, nAn_bit, Nat.testBit_two_pow]
          simp only [Bool.and_eq_true, Bool.not_eq_true', decide_eq_false_iff_not, Bs]
          exact ⟨fun q => q.imp (fun q => ⟨q.1, fun z => q.2 z.symm⟩) id, fun q => q.imp (fun q => ⟨q.1, fun z => q.2 z.symm⟩) id⟩
        refine ih (j + 1) _ _ (by omega) ?_ ?_ ?_ ?_ ?_ ?_
        · exact Nat.or_lt_two_pow (n := 60) hR (Nat.lt_of_le_of_lt (nAn_le _ _) b1)
        · intro v hv
          rw [bR]; exact ((bD v).mp hv).imp (fun q => hDR v q.1) id
        · rw [bR]; exact Or.inl ha2
        · intro v hv
          rcases (bR v).mp hv with q | q
          · exact h1 v q
          · exact (h1 l hlR).step (gRch.mem ha (h1 l hlR)) q.2.1 q.1
        · intro v hv hnD u e hu
          rw [bR]
          by_cases hvl : v = l
          · subst hvl
            by_cases q : Bs R u
            · exact Or.inl q
            · exact Or.inr ⟨e, hu, q⟩
          · rcases (bR v).mp hv with q | q
            · exact Or.inl (h2 v q (fun z => hnD ((bD v).mpr (Or.inl ⟨z, hvl⟩))) u e hu)
            · exact absurd ((bD v).mpr (Or.inr q)) hnD
        · rw [gSz_add (w := l) (P := fun v => Bs R v ∧ ¬ Bs D v) (fun q => q.2 hlD) (fun v => ?_) hlw, h3]
          rw [bR, bD]
          constructor
          · rintro ⟨q1, q2⟩
            by_cases hvl : v = l
            · exact Or.inr hvl
            · refine Or.inl ⟨q1.resolve_right (fun z => q2 (Or.inr z)), fun z => q2 (Or.inl ⟨z, hvl⟩)⟩
          · rintro (⟨q1, q2⟩ | rfl)
            · refine ⟨Or.inl q1, fun z => ?_⟩
              rcases z with z | z
              · exact q2 z.1
              · exact z.2.2 q1
            · refine ⟨Or.inl hlR, fun z => ?_⟩
              rcases z with z | z
              · exact z.2 rfl
              · exact z.2.2 hlR
  simp (disch := omega) only [m_0, m_L0, m_lt, m_le, m_eq, m_neg, m_in, m_clamp, m_add, m_sub, m_pred, m_mul, m_l, m_i, m_Land, m_Lor, m_and, m_or, m_xor, m_Landn, m_andn, m_LshlP, m_shl, m_LbitP, m_bit, m_cmp0P, m_Lb0, m_Lb1, m_b0, m_b1, Nat.one_mul]
  have ba : ∀ v, Bs (2 ^ a) v ↔ v = a := fun v => by
    show (2 ^ a).testBit v = true ↔ _
    rw [Nat.testBit_two_pow, decide_eq_true_eq]; exact eq_comm
  refine H w 0 _ _ (by omega) (Nat.pow_lt_pow_right (a := 2) (n := 60) (by omega) (by omega)) (fun v q => q) ((ba a).mpr rfl) (fun v q => by rw [(ba v).mp q]; exact gRch.refl) (fun v q1 q2 => absurd q1 q2) ?_
  exact gSz_no (fun v q => q.2 q.1)
theorem X4_write_s {Q : Qt} {w : Nat} {r : Ly} {X : HX} {Y : HY} {R a : Nat} (hw : w ≤ 60) (hX : X 0 2 = nI w) (hR : R < 1152921504606846976) (ha : a < w)
    (k : ∀ Y', (∀ c, c ≠ 3 → Y' c = Y c) → (∀ i, (∃ b, b < w ∧ Bs R b ∧ i = w * a + b) → Y' 3 i = lN R) → (∀ i, ¬ (∃ b, b < w ∧ Bs R b ∧ i = w * a + b) → Y' 3 i = Y 3 i) → Q (.inl none) (LX4 w ++ r) X Y') : tX4_writeWays [.ref 0, .int (nI a), .long (lN R)] (LX4 w ++ r) X Y Q := by
  apply tX4_writeWays_i
  have sq := sq60 hw
  have H : ∀ n j Y', j + n = w → (∀ c, c ≠ 3 → Y' c = Y c) → (∀ i, (∃ b, b < j ∧ Bs R b ∧ i = w * a + b) → Y' 3 i = lN R) → (∀ i, ¬ (∃ b, b < j ∧ Bs R b ∧ i = w * a + b) → Y' 3 i = Y 3 i) → hX4_writeWays_3 Q w r (nI a) (lN R) (nI j) X Y' := by
    intro n
    induction n with
    | zero =>
      intro j Y' hj h1 h2 h3
      have : j = w := by omega
      subst this
      apply hX4_writeWays_3_i
      rw [hX]
      simp (disch := omega) only [m_0, m_L0, m_lt, m_le, m_eq, m_neg, m_in, m_clamp, m_add, m_sub, m_pred, m_mul, m_l, m_i, m_Land, m_Lor, m_and, m_or, m_xor, m_Landn, m_andn, m_LshlP, m_shl, m_LbitP, m_bit, m_cmp0P, m_Lb0, m_Lb1, m_b0, m_b1, Nat.one_mul]
      exact ⟨fun _ => k Y' h1 h2 h3, fun h => by omega⟩
    | succ n ih =>
      intro j Y' hj h1 h2 h3
      have hjw : j < w := by omega
      have hlt := idx_lt ha hjw
      apply hX4_writeWays_3_i
      rw [hX]
      simp (disch := omega) only [m_0, m_L0, m_lt, m_le, m_eq, m_neg, m_in, m_clamp, m_add, m_sub, m_pred, m_mul, m_l, m_i, m_Land, m_Lor, m_and, m_or, m_xor, m_Landn, m_andn, m_LshlP, m_shl, m_LbitP, m_bit, m_cmp0P, m_Lb0, m_Lb1, m_b0, m_b1, Nat.one_mul]
      refine ⟨fun h => by omega, fun _ => ⟨fun hb => ih _ _ (by omega) h1 (fun i ⟨b, q1, q2, q3⟩ => ?_) (fun i q => ?_), fun hb => ⟨hlt, ih _ _ (by omega) (fun c hc => ?_) (fun i q => ?_) (fun i q => ?_)⟩⟩⟩
      · refine h2 i ⟨b, ?_, q2, q3⟩
        rcases Nat.lt_or_ge b j with z | z
        · exact z
        · have : b = j := by omega
          subst this
          rw [show R.testBit b = true from q2] at hb; cases hb
      · exact h3 i (fun ⟨b, q1, q2, q3⟩ => q ⟨b, by omega, q2, q3⟩)
      · funext i; simp only [up2, hc, if_false]; rw [h1 c hc]
      · obtain ⟨b, q1, q2, q3⟩ := q
        simp only [up2, if_true]
        by_cases e : i = w * a + j
        · simp only [e, if_true]
        · simp only [e, if_false]
          refine h2 i ⟨b, ?_, q2, q3⟩
          rcases Nat.lt_or_ge b j with z | z
          · exact z
          · exact absurd (by rw [q3, show b = j by omega]) e
      · simp only [up2, if_true]
        by_cases e : i = w * a + j
        · exact absurd ⟨j, by omega, nz_nz hb, e⟩ q
        · simp only [e, if_false]
          exact h3 i (fun ⟨b, q1, q2, q3⟩ => q ⟨b, by omega, q2, q3⟩)
  exact H w 0 Y (by omega) (fun _ _ => rfl) (fun i ⟨b, q, _⟩ => by omega) (fun _ _ => rfl)
/-- a row's place of the ways: all to whom ways lead from b that have not a, nor any whom a has met -/
def wyP (M : Nat → Nat) (S a b m : Nat) : Prop := m < 1152921504606846976 ∧ ∀ v, Bs m v ↔ gAv (Eo M) (Bs S) a b ∧ gRch (Eo M) (gAv (Eo M) (Bs S) a) b v
theorem X4_findWays_s {Q : Qt} {w : Nat} {r : Ly} {X : HX} {Y : HY} {M : Nat → Nat} {S : Nat} (hV : VM w X Y M) (hG : GM w M) (hS : S < 1152921504606846976) (hSw : ∀ v, Bs S v → v < w)
    (k : ∀ Y', (∀ c, c ≠ 3 → Y' c = Y c) → (∀ a, Bs S a → ∀ b, b < w → ∃ m, Y' 3 (w * a + b) = lN m ∧ wyP M S a b m) → Q (.inl none) (LX4 w ++ r) X Y') : tX4_findWays [.ref 0, .long (lN S)] (LX4 w ++ r) X Y Q := by
  have hs : ∀ a b, Eo M a b → Eo M b a := fun a b e => (hG a b e).2.2.2
  obtain ⟨hw, hX, hM⟩ := hV
  have sq := sq60 hw
  apply tX4_findWays_i
  have H : ∀ n a Y', a + n = w → (∀ c, c ≠ 3 → Y' c = Y c) → (∀ a', a' < a → Bs S a' → ∀ b, b < w → ∃ m, Y' 3 (w * a' + b) = lN m ∧ wyP M S a' b m) → hX4_findWays_2 Q w r (lN S) (nI a) X Y' := by
    intro n
    induction n with
    | zero =>
      intro a Y' ha h1 h2
      apply hX4_findWays_2_i
      rw [hX]
      simp (disch := omega) only [m_0, m_L0, m_lt, m_le, m_eq, m_neg, m_in, m_clamp, m_add, m_sub, m_pred, m_mul, m_l, m_i, m_Land, m_Lor, m_and, m_or, m_xor, m_Landn, m_andn, m_LshlP, m_shl, m_LbitP, m_bit, m_cmp0P, m_Lb0, m_Lb1, m_b0, m_b1, Nat.one_mul]
      exact ⟨fun _ => k Y' h1 (fun a' q b hb => h2 a' (by have := hSw a' q; omega) q b hb), fun h => by omega⟩
    | succ n ih =>
      intro a Y' ha h1 h2
      have haw : a < w := by omega
      have hY1 : Y' 1 = Y 1 := h1 1 (by omega)
      apply hX4_findWays_2_i
      rw [hX]
      simp (disch := omega) only [m_0, m_L0, m_lt, m_le, m_eq, m_neg, m_in, m_clamp, m_add, m_sub, m_pred, m_mul, m_l, m_i, m_Land, m_Lor, m_and, m_or, m_xor, m_Landn, m_andn, m_LshlP, m_shl, m_LbitP, m_bit, m_cmp0P, m_Lb0, m_Lb1, m_b0, m_b1, Nat.one_mul, hY1, (hM a haw).1]
      refine ⟨fun h => by omega, fun _ => ⟨fun hb => ⟨haw, ?_⟩, fun hb => ?_⟩⟩
      · have haS : Bs S a := nz_nz hb
        have bA : ∀ v, Bs (nAn (nAn S (M a)) (2 ^ a)) v ↔ gAv (Eo M) (Bs S) a v := fun v => by
          show (nAn (nAn S (M a)) (2 ^ a)).testBit v = true ↔ _
          rw [nAn_bit, nAn_bit, Nat.testBit_two_pow]
          simp only [Bool.and_eq_true, Bool.not_eq_true', decide_eq_false_iff_not, gAv, Bs, Eo, Bool.not_eq_true, ne_eq]
          exact ⟨fun q => ⟨q.1.1, fun z => q.2 z.symm, q.1.2⟩, fun q => ⟨⟨q.1, q.2.2⟩, fun z => q.2.1 z.symm⟩⟩
        have hA : nAn (nAn S (M a)) (2 ^ a) < 1152921504606846976 := Nat.lt_of_le_of_lt (Nat.le_trans (nAn_le _ _) (nAn_le _ _)) hS
        revert bA hA
        generalize nAn (nAn S (M a)) (2 ^ a) = A
        intro bA hA
        have hAw : ∀ v, Bs A v → v < w := fun v q => hSw v ((bA v).mp q).1
        have G : ∀ m b Lf Y2, b + m = w → Lf < 1152921504606846976 → (∀ c, c ≠ 3 → Y2 c = Y c) → (∀ a', a' < a → Bs S a' → ∀ b, b < w → ∃ m, Y2 3 (w * a' + b) = lN m ∧ wyP M S a' b m) → (∀ v, Bs Lf v → Bs A v) → (∀ v u, Bs Lf v → gRch (Eo M) (gAv (Eo M) (Bs S) a) v u → Bs Lf u) → (∀ v, v < b → ¬ Bs Lf v) → (∀ v, v < w → Bs A v → ¬ Bs Lf v → ∃ m, Y2 3 (w * a + v) = lN m ∧ wyP M S a v m) → (∀ v, v < b → ¬ Bs A v → Y2 3 (w * a + v) = lN 0) → hX4_findWays_52 Q w r (lN S) (nI a) (lN A) (lN Lf) (nI b) X Y2 := by
          intro m
          induction m with
          | zero =>
            intro b Lf Y2 hb hLf g1 g2 g3 g4 g5 g6 g7
            apply hX4_findWays_52_i
            rw [hX]
            simp (disch := omega) only [m_0, m_L0, m_lt, m_le, m_eq, m_neg, m_in, m_clamp, m_add, m_sub, m_pred, m_mul, m_l, m_i, m_Land, m_Lor, m_and, m_or, m_xor, m_Landn, m_andn, m_LshlP, m_shl, m_LbitP, m_bit, m_cmp0P, m_Lb0, m_Lb1, m_b0, m_b1, Nat.one_mul]
            refine ⟨fun _ => ih _ _ (by omega) g1 (fun a' q1 q2 v hv => ?_), fun h => by omega⟩
            rcases Nat.lt_or_ge a' a with z | z
            · exact g2 a' z q2 v hv
            · have : a' = a := by omega
              subst this
              by_cases q : Bs A v
              · exact g6 v hv q (g5 v (by omega))
              · refine ⟨0, g7 v (by omega) q, by omega, fun u => ⟨fun z => by simp [Bs] at z, fun z => absurd ((bA v).mpr z.1) q⟩⟩
          | succ m ihm =>
            intro b Lf Y2 hb hLf g1 g2 g3 g4 g5 g6 g7
            have hbw : b < w := by omega
            have hlt := idx_lt haw hbw
            apply hX4_findWays_52_i
            rw [hX]
            simp (disch := omega) only [m_0, m_L0, m_lt, m_le, m_eq, m_neg, m_in, m_clamp, m_add, m_sub, m_pred, m_mul, m_l, m_i, m_Land, m_Lor, m_and, m_or, m_xor, m_Landn, m_andn, m_LshlP, m_shl, m_LbitP, m_bit, m_cmp0P, m_Lb0, m_Lb1, m_b0, m_b1, Nat.one_mul]
            refine ⟨fun h => by omega, fun _ => ⟨fun hbA => ⟨fun hbL => ?_, fun hbL => ?_⟩, fun hbA => ⟨hlt, ?_⟩⟩⟩
            · refine ihm (b + 1) Lf Y2 (by omega) hLf g1 g2 g3 g4 (fun v hv => ?_) g6 (fun v hv q => ?_)
              · by_cases e : v = b
                · rw [e]; intro q; rw [show Lf.testBit b = true from q] at hbL; cases hbL
                · exact g5 v (by omega)
              · by_cases e : v = b
                · rw [e] at q; exact absurd (nz_nz hbA) q
                · exact g7 v (by omega) q
            · have hbL2 : Bs Lf b := nz_nz hbL
              have hV2 : VM w X Y2 M := ⟨hw, hX, fun i hi => by rw [g1 1 (by omega)]; exact hM i hi⟩
              refine X4_reached_s hV2 hG hLf (fun v q => hAw v (g3 v q)) hbL2 (fun R hR bR => cK2_mk ?_)
              have bR2 : ∀ v, Bs R v ↔ gRch (Eo M) (gAv (Eo M) (Bs S) a) b v := fun v => (bR v).trans ⟨fun q => q.mono (fun u z => (bA u).mp (g3 u z)), fun q => by
                have h9 := q (fun z => Bs Lf z ∧ gRch (Eo M) (Bs Lf) b z) ⟨hbL2, gRch.refl⟩ (fun x y hx px py e => by
                  have hy : Bs Lf y := g4 x y hx.1 (gRch.one px py e)
                  exact ⟨hy, hx.2.step hx.1 hy e⟩)
                exact h9.2⟩
              have hRA : ∀ v, Bs R v → Bs A v := fun v q => g3 v (gRch.mem hbL2 ((bR v).mp q))
              refine X4_write_s hw hX hR haw (fun Y3 w1 w2 w3 => cK0_mk ?_)
              have bL : ∀ v, Bs (nAn Lf R) v ↔ Bs Lf v ∧ ¬ Bs R v := fun v => by
                show (nAn Lf R).testBit v = true ↔ _
                rw [nAn_bit]
                simp only [Bool.and_eq_true, Bool.not_eq_true', Bs, Bool.not_eq_true]
              simp (disch := omega) only [m_0, m_L0, m_lt, m_le, m_eq, m_neg, m_in, m_clamp, m_add, m_sub, m_pred, m_mul, m_l, m_i, m_Land, m_Lor, m_and, m_or, m_xor, m_Landn, m_andn, m_LshlP, m_shl, m_LbitP, m_bit, m_cmp0P, m_Lb0, m_Lb1, m_b0, m_b1, Nat.one_mul]
              refine ihm (b + 1) _ Y3 (by omega) (Nat.lt_of_le_of_lt (nAn_le _ _) hLf) (fun c hc => by rw [w1 c hc, g1 c hc]) (fun a' q1 q2 v hv => ?_) (fun v q => g3 v ((bL v).mp q).1) (fun v u q1 q2 => ?_) (fun v hv q => ?_) (fun v hv q1 q2 => ?_) (fun v hv q => ?_)
              · rw [w3 _ (fun ⟨b', z1, z2, z3⟩ => by have := (idx_inj hv z1 z3).1; omega)]
                exact g2 a' q1 q2 v hv
              · have h1 := (bL v).mp q1
                refine (bL u).mpr ⟨g4 v u h1.1 q2, fun z => h1.2 ((bR2 v).mpr ?_)⟩
                exact ((bR2 u).mp z).trans (q2.symm hs)
              · have h1 := (bL v).mp q
                by_cases e : v = b
                · rw [e] at h1; exact h1.2 ((bR2 b).mpr gRch.refl)
                · exact g5 v (by omega) h1.1
              · by_cases q : Bs R v
                · refine ⟨R, w2 _ ⟨v, hv, q, rfl⟩, hR, fun u => ?_⟩
                  have q9 := (bR2 v).mp q
                  exact ⟨fun z => ⟨(bA v).mp q1, (q9.symm hs).trans ((bR2 u).mp z)⟩, fun z => (bR2 u).mpr (q9.trans z.2)⟩
                · rw [w3 _ (fun ⟨b', z1, z2, z3⟩ => by have := (idx_inj hv z1 z3).2; subst this; exact q z2)]
                  exact g6 v hv q1 (fun z => q2 ((bL v).mpr ⟨z, q⟩))
              · rw [w3 _ (fun ⟨b', z1, z2, z3⟩ => by have := (idx_inj (by omega) z1 z3).2; subst this; exact q (hRA v z2))]
                by_cases e : v = b
                · rw [e] at q; exact absurd (g3 b hbL2) q
                · exact g7 v (by omega) q
            · have hbA2 : ¬ Bs A b := fun q => hbA (by rw [show A.testBit b = true from q]; decide)
              refine ihm (b + 1) Lf _ (by omega) hLf (fun c hc => ?_) (fun a' q1 q2 v hv => ?_) g3 g4 (fun v hv q => ?_) (fun v hv q1 q2 => ?_) (fun v hv q => ?_)
              · funext i; simp only [up2, hc, if_false]; rw [g1 c hc]
              · have : ¬ w * a' + v = w * a + b := fun e => by have := (idx_inj hv hbw e).1; omega
                simp only [up2, if_true, this, if_false]
                exact g2 a' q1 q2 v hv
              · by_cases e : v = b
                · rw [e] at q; exact hbA2 (g3 b q)
                · exact g5 v (by omega) q
              · have : ¬ w * a + v = w * a + b := fun e => by have := (idx_inj hv hbw e).2; subst this; exact hbA2 q1
                simp only [up2, if_true, this, if_false]
                exact g6 v hv q1 q2
              · simp only [up2, if_true]
                by_cases e : v = b
                · rw [e]; simp
                · have : ¬ w * a + v = w * a + b := fun e2 => e (idx_inj (by omega) hbw e2).2
                  simp only [this, if_false]
                  exact g7 v (by omega) q
        exact G w 0 A Y' (by omega) hA h1 h2 (fun v q => q) (fun v u q1 q2 => (bA u).mpr (gRch.mem ((bA v).mp q1) q2)) (fun v hv => by omega) (fun v hv q1 q2 => absurd q1 q2) (fun v hv => by omega)
      · refine ih _ _ (by omega) h1 (fun a' q1 q2 v hv => ?_)
        rcases Nat.lt_or_ge a' a with z | z
        · exact h2 a' z q2 v hv
        · have : a' = a := by omega
          subst this
          exact absurd (by rw [show S.testBit a' = true from q2]; decide) hb
  exact H w 0 Y (by omega) (fun _ _ => rfl) (fun a' h => by omega)
