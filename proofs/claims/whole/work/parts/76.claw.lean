/-! claws, checks, THE THREE -/
theorem m_Lm2 : (-2 : Int64) = lN 18446744073709551614 := rfl
theorem dec3 {a b c k : Nat} (ha : a < 64) (hb : b < 64) (hc : c < 64) (hk : k < 3) : (nI (a + 64 * b + 4096 * c) >>> ((nI 6 * nI k) &&& 31)) &&& nI 63 = nI (if k = 0 then a else if k = 1 then b else c) := by
  rw [m_mul, m_shr (by omega) (by omega), m_and]
  congr 1
  rw [show (63 : Nat) = 2 ^ 6 - 1 from rfl, Nat.and_two_pow_sub_one_eq_mod]
  have h3 : k = 0 ∨ k = 1 ∨ k = 2 := by omega
  rcases h3 with rfl | rfl | rfl
  · simp; omega
  · simp; omega
  · simp; omega
/-- three of a set of whom no two have met -/
def apP (M : Nat → Nat) (T a b c : Nat) : Prop := a < b ∧ b < c ∧ Bs T a ∧ Bs T b ∧ Bs T c ∧ ¬ Eo M a b ∧ ¬ Eo M a c ∧ ¬ Eo M b c
def apR (M : Nat → Nat) (T : Nat) (z : Int) : Prop := (z = -1 ∧ ∀ a b c, ¬ apP M T a b c) ∨ ∃ a b c : Nat, z = ((a + 64 * b + 4096 * c : Nat) : Int) ∧ c < 60 ∧ apP M T a b c ∧ ∀ a' b' c', apP M T a' b' c' → a < a' ∨ (a = a' ∧ (b < b' ∨ (b = b' ∧ c ≤ c')))
theorem gt_bit {b i : Nat} (hi : i < 60) : (18446744073709551614 * 2 ^ b).testBit i = decide (b < i) := by
  have e : 18446744073709551614 * 2 ^ b = (2 ^ 63 - 1) * 2 ^ (b + 1) := by rw [Nat.pow_succ]; omega
  rw [e, Nat.testBit_mul_two_pow, full_bit]
  by_cases h : b < i
  · simp [h]; omega
  · simp [h]; omega
theorem X4_apart_s {Q : Qt} {w : Nat} {r : Ly} {X : HX} {Y : HY} {M : Nat → Nat} {T : Nat} (hV : VM w X Y M) (hT : T < 1152921504606846976) (hTw : ∀ v, Bs T v → v < w) (k : ∀ z : Int, apR M T z → Q (.inl (some (.int (zI z)))) (LX4 w ++ r) X Y) : tX4_findApart [.ref 0, .long (lN T)] (LX4 w ++ r) X Y Q := by
  obtain ⟨hw, hX, hM⟩ := hV
  apply tX4_findApart_i
  have H : ∀ n a, a + n = w → (∀ a' b' c', a' < a → ¬ apP M T a' b' c') → hX4_findApart_2 Q w r (lN T) (nI a) X Y := by
    intro n
    induction n with
    | zero =>
      intro a ha hI
      apply hX4_findApart_2_i
      rw [hX]
      simp (disch := omega) only [m_0, m_L0, m_lt, m_le, m_eq, m_neg, m_in, m_clamp, m_add, m_sub, m_pred, m_mul, m_l, m_i, m_Land, m_Lor, m_and, m_or, m_xor, m_Landn, m_andn, m_LshlP, m_shl, m_LbitP, m_bit, m_cmp0P, m_Lb0, m_Lb1, m_b0, m_b1, Nat.one_mul]
      refine ⟨fun _ => k (-1) (Or.inl ⟨rfl, fun a' b' c' h => hI a' b' c' (by have := hTw a' h.2.2.1; omega) h⟩), fun h => by omega⟩
    | succ n ih =>
      intro a ha hI
      have haw : a < w := by omega
      apply hX4_findApart_2_i
      rw [hX]
      simp (disch := omega) only [m_0, m_L0, m_lt, m_le, m_eq, m_neg, m_in, m_clamp, m_add, m_sub, m_pred, m_mul, m_l, m_i, m_Land, m_Lor, m_and, m_or, m_xor, m_Landn, m_andn, m_LshlP, m_shl, m_LbitP, m_bit, m_cmp0P, m_Lb0, m_Lb1, m_b0, m_b1, Nat.one_mul]
      refine ⟨fun h => by omega, fun _ => ⟨fun hb => ?_, fun hb => ih (a + 1) (by omega) (fun a' b' c' h1 h2 => ?_)⟩⟩
      · have hbT : Bs T a := nz_nz hb
        have hMa := hM a haw
        have G : ∀ m b, b + m = w → a < b → (∀ b' c', b' < b → ¬ apP M T a b' c') → hX4_findApart_28 Q w r (lN T) (nI a) (nI b) X Y := by
          intro m
          induction m with
          | zero =>
            intro b hb hab hJ
            apply hX4_findApart_28_i
            rw [hX]
            simp (disch := omega) only [m_0, m_L0, m_lt, m_le, m_eq, m_neg, m_in, m_clamp, m_add, m_sub, m_pred, m_mul, m_l, m_i, m_Land, m_Lor, m_and, m_or, m_xor, m_Landn, m_andn, m_LshlP, m_shl, m_LbitP, m_bit, m_cmp0P, m_Lb0, m_Lb1, m_b0, m_b1, Nat.one_mul]
            refine ⟨fun _ => ih (a + 1) (by omega) (fun a' b' c' h1 h2 => ?_), fun h => by omega⟩
            by_cases e : a' = a
            · subst e; exact hJ b' c' (by have := hTw b' h2.2.2.2.1; omega) h2
            · exact hI a' b' c' (by omega) h2
          | succ m ihm =>
            intro b hb hab hJ
            have hbw : b < w := by omega
            have hMb := hM b hbw
            have l1 := nAn_le T (M a)
            have l2 := nAn_le (nAn T (M a)) (M b)
            have nx : (∀ c', ¬ apP M T a b c') → hX4_findApart_28 Q w r (lN T) (nI a) (nI (b + 1)) X Y := fun h => ihm (b + 1) (by omega) (by omega) (fun b' c' h1 => by
              by_cases e : b' = b
              · subst e; exact h c'
              · exact hJ b' c' (by omega))
            have l3 : nAn (nAn T (M a)) (M b) &&& (18446744073709551614 * 2 ^ b) ≤ nAn (nAn T (M a)) (M b) := Nat.and_le_left
            apply hX4_findApart_28_i
            rw [hX]
            simp (disch := omega) only [m_0, m_L0, m_lt, m_le, m_eq, m_neg, m_in, m_clamp, m_add, m_sub, m_pred, m_mul, m_l, m_i, m_Land, m_Lor, m_and, m_or, m_xor, m_Landn, m_andn, m_LshlP, m_shl, m_LbitP, m_bit, m_cmp0P, m_Lb0, m_Lb1, m_b0, m_b1, Nat.one_mul, hMa.1, hMb.1, m_Lm2]
            have bO : ∀ c, Bs (nAn (nAn T (M a)) (M b) &&& (18446744073709551614 * 2 ^ b)) c ↔ Bs T c ∧ ¬ Eo M a c ∧ ¬ Eo M b c ∧ b < c := fun c => by
              unfold Bs Eo
              rw [Nat.testBit_and, nAn_bit, nAn_bit]
              by_cases q : T.testBit c = true
              · rw [gt_bit (by have := hTw c q; omega), q]
                cases (M a).testBit c <;> cases (M b).testBit c <;> simp
              · simp [q]
            refine ⟨fun h => by omega, fun _ => ⟨haw, fun hx => ⟨haw, hbw, fun h0 => nx (fun c' h => ?_), fun h0 => ?_⟩, fun hx => nx (fun c' h => ?_)⟩⟩
            · rw [m_Leq (by omega) (by omega)] at h0
              have := (bO c').mpr ⟨h.2.2.2.2.1, h.2.2.2.2.2.2.1, h.2.2.2.2.2.2.2, h.2.1⟩
              rw [h0] at this; simp [Bs] at this
            · rw [m_Leq (by omega) (by omega)] at h0
              have hxb : Bs T b ∧ ¬ Eo M a b := by
                have h9 := nz_nz hx
                rw [nAn_bit, Bool.and_eq_true, Bool.not_eq_true'] at h9
                exact ⟨h9.1, bsF.mpr h9.2⟩
              refine X8_lowest_s (Nat.pos_of_ne_zero h0) (by omega) (fun c _ hc1 hc2 => cK1_mk ?_)
              obtain ⟨c1, c2, c3, c4⟩ := (bO c).mp hc1
              have hcw := hTw c c1
              rw [enc3b (by omega) (by omega) (by omega), ← m_zI]
              refine k _ (Or.inr ⟨a, b, c, rfl, by omega, ⟨hab, c4, hbT, hxb.1, c1, hxb.2, c2, c3⟩, fun a' b' c' h => ?_⟩)
              by_cases e1 : a' < a
              · exact absurd h (hI a' b' c' e1)
              · by_cases e2 : a' = a
                · subst e2
                  by_cases e3 : b' < b
                  · exact absurd h (hJ b' c' e3)
                  · by_cases e4 : b' = b
                    · subst e4
                      refine Or.inr ⟨rfl, Or.inr ⟨rfl, Nat.le_of_not_lt (fun q => ?_)⟩⟩
                      have := (bO c').mpr ⟨h.2.2.2.2.1, h.2.2.2.2.2.2.1, h.2.2.2.2.2.2.2, h.2.1⟩
                      exact absurd this (bsF.mpr (hc2 c' q))
                    · exact Or.inr ⟨rfl, Or.inl (by omega)⟩
                · exact Or.inl (by omega)
            · have h9 := Classical.not_not.mp hx
              rw [nAn_bit] at h9
              rw [show T.testBit b = true from h.2.2.2.1, Bool.true_and, Bool.not_eq_false'] at h9
              exact h.2.2.2.2.2.1 h9
        exact G _ (a + 1) (Nat.add_sub_cancel' (by omega : a + 1 ≤ w)) (by omega) (fun b' c' h1 h2 => by have := h2.1; omega)
      · by_cases e : a' = a
        · subst e
          have := Classical.not_not.mp hb
          rw [show T.testBit a' = true from h2.2.2.1] at this; cases this
        · exact hI a' b' c' (by omega) h2
  exact H w 0 (Nat.zero_add _) (fun a' b' c' h => by omega)
/-- THE CLAW -/
def clP (M : Nat → Nat) (v a b c : Nat) : Prop := a < b ∧ b < c ∧ Eo M v a ∧ Eo M v b ∧ Eo M v c ∧ ¬ Eo M a b ∧ ¬ Eo M a c ∧ ¬ Eo M b c
def clR (M : Nat → Nat) (z : Option (Nat × Nat × Nat × Nat)) : Prop := match z with
  | none => ∀ v a b c, ¬ clP M v a b c
  | some (v, a, b, c) => clP M v a b c ∧ ∀ v' a' b' c', clP M v' a' b' c' → v < v' ∨ (v = v' ∧ (a < a' ∨ (a = a' ∧ (b < b' ∨ (b = b' ∧ c ≤ c')))))
theorem clR_uq {M : Nat → Nat} {y z : Option (Nat × Nat × Nat × Nat)} (hy : clR M y) (hz : clR M z) : y = z := by
  cases y with
  | none =>
    cases z with
    | none => rfl
    | some q => obtain ⟨v, a, b, c⟩ := q; exact absurd hz.1 (hy v a b c)
  | some p =>
    obtain ⟨v, a, b, c⟩ := p
    cases z with
    | none => exact absurd hy.1 (hz v a b c)
    | some q =>
      obtain ⟨v', a', b', c'⟩ := q
      have h1 := hy.2 v' a' b' c' hz.1
      have h2 := hz.2 v a b c hy.1
      have : v = v' ∧ a = a' ∧ b = b' ∧ c = c' := by omega
      obtain ⟨rfl, rfl, rfl, rfl⟩ := this
      rfl
noncomputable def clQ (s : St) : Option (Nat × Nat × Nat × Nat) := Classical.epsilon (clR (Ms s))
theorem clQ_eq {s : St} {z : Option (Nat × Nat × Nat × Nat)} (h : clR (Ms s) z) : clQ s = z := eps_uq h (fun _ hy => clR_uq hy h)
noncomputable def clA (z : Option (Nat × Nat × Nat × Nat)) (p : Int32) : Int32 := match z with
  | none => -1
  | some (v, a, b, c) => if p = 0 then nI v else if p = nI 1 then nI a else if p = nI 2 then nI b else nI c
noncomputable def aClaw (s : St) (p : Int32) : Rs := rI (cif (p < 0 ∨ ¬ p ≤ nI 3) (-1) (clA (clQ s) p))
section Claw8
variable {CK S1 S2 : HX → St → Prop} {X X' : HX} {Y Y' : HY} {s : St} {b : Bool} {Q : Qt}
theorem ap_cl {v a b c : Nat} : apP (Ms s) (Ms s v) a b c ↔ clP (Ms s) v a b c := Iff.rfl
theorem X8_clawL {v0 p : Nat} (h : Qw CK S1 S2 X Y s) (pk : PKo X Y s) (hp : p < 4) (hv : v0 ≤ sG s) (hI : ∀ v a b c, v < v0 → ¬ clP (Ms s) v a b c) (k : ∀ X' Y', Kp b X X' Y Y' → Qw CK S1 S2 X' Y' s → Q (rI (clA (clQ s) (nI p))) (LX8 b) X' Y') : hX8_claw_17 Q b (nI p) (nI v0) X Y := by
  have g9 := h.si.1
  have H : ∀ n v X1 Y1, v + n = sG s → Kp b X X1 Y Y1 → Qw CK S1 S2 X1 Y1 s → PKo X1 Y1 s → (∀ v' a b c, v' < v → ¬ clP (Ms s) v' a b c) → hX8_claw_17 Q b (nI p) (nI v) X1 Y1 := by
    intro n
    induction n with
    | zero =>
      intro v X1 Y1 hv kp hq pk hI
      apply hX8_claw_17_i
      rw [hq.bv.1]
      simp (disch := omega) only [m_0, m_L0, m_lt, m_le, m_eq, m_neg, m_in, m_clamp, m_add, m_sub, m_pred, m_mul, m_l, m_i, m_Land, m_Lor, m_and, m_or, m_xor, m_Landn, m_andn, m_LshlP, m_shl, m_LbitP, m_bit, m_cmp0P, m_Lb0, m_Lb1, m_b0, m_b1, Nat.one_mul]
      refine ⟨fun _ => ?_, fun h => by omega⟩
      have k' := k _ _ kp hq
      rw [clQ_eq (z := none) (fun v' a b c q => hI v' a b c (by have := (Ms_bd _ _ q.2.2.1).1; omega) q)] at k'
      exact k'
    | succ n ih =>
      intro v X1 Y1 hv kp hq pk hI
      have hv10 : v < 10 := by omega
      have hMv := Ms_lt h.si v
      apply hX8_claw_17_i
      rw [hq.bv.1]
      simp (disch := omega) only [m_0, m_L0, m_lt, m_le, m_eq, m_neg, m_in, m_clamp, m_add, m_sub, m_pred, m_mul, m_l, m_i, m_Land, m_Lor, m_and, m_or, m_xor, m_Landn, m_andn, m_LshlP, m_shl, m_LbitP, m_bit, m_cmp0P, m_Lb0, m_Lb1, m_b0, m_b1, Nat.one_mul, pk.2.1 v hv10]
      refine ⟨fun h => by omega, fun _ => ⟨hv10, X4_apart_s (hq.vm pk) (by omega) (fun u hu => by have := (Ms_bd _ _ hu).2; omega) (fun z hz => cS1_mk ?_)⟩⟩
      have e := Eq8.mg (b := b) (X := X1) (Y := Y1) [33, 34, 35, 36]
      have kp2 := kp.trans e.kp
      have hq2 := hq.scr e.scr
      have pk2 := e.scr.pk pk
      rcases hz with ⟨rfl, hz⟩ | ⟨x, y, w, rfl, hw, hz, hmin⟩
      · refine ⟨fun _ => ih (v + 1) _ _ (by omega) kp2 hq2 pk2 (fun v' a b c q1 q2 => ?_), fun q => absurd rfl q⟩
        by_cases e : v' = v
        · subst e; exact hz a b c q2
        · exact hI v' a b c (by omega) q2
      · have hcl : clR (Ms s) (some (v, x, y, w)) := by
          refine ⟨hz, fun v' a b c q => ?_⟩
          by_cases e1 : v' < v
          · exact absurd q (hI v' a b c e1)
          · by_cases e2 : v' = v
            · subst e2; exact Or.inr ⟨rfl, hmin a b c q⟩
            · exact Or.inl (by omega)
        have k' := k _ _ kp2 hq2
        rw [clQ_eq hcl] at k'
        have hxy := hz.1
        have hyw := hz.2.1
        rw [m_zI]
        simp (disch := omega) only [m_0, m_L0, m_lt, m_le, m_eq, m_neg, m_in, m_clamp, m_add, m_sub, m_pred, m_mul, m_l, m_i, m_Land, m_Lor, m_and, m_or, m_xor, m_Landn, m_andn, m_LshlP, m_shl, m_LbitP, m_bit, m_cmp0P, m_Lb0, m_Lb1, m_b0, m_b1, Nat.one_mul]
        refine ⟨fun q => q.elim, fun _ => ⟨fun hp0 => ?_, fun hp0 => ?_⟩⟩
        · have ep : nI p - nI 1 = nI (p - 1) := m_sub (by omega)
          rw [ep, dec3 (by omega) (by omega) (by omega) (by omega)]
          have c3 : p = 1 ∨ p = 2 ∨ p = 3 := by omega
          rcases c3 with rfl | rfl | rfl
          · exact k'
          · exact k'
          · exact k'
        · have c0 : p = 0 := by omega
          subst c0
          exact k'
  exact H _ v0 X Y (Nat.add_sub_cancel' hv) Kp.rfl h pk hI
theorem X8_claw_s {p : Int32} (h : Qw CK S1 S2 X Y s) (k : ∀ X' Y', Kp b X X' Y Y' → Qw CK S1 S2 X' Y' s → Q (aClaw s p) (LX8 b) X' Y') : tX8_claw b [.ref 0, .int p] (LX8 b) X Y Q := by
  apply tX8_claw_i
  refine Q8_pairs h (fun X1 Y1 kp hq pk => cK0_mk ?_)
  refine ⟨fun q => ?_, fun q => ⟨fun q2 => ?_, fun q2 => ?_⟩⟩
  · have k' := k _ _ kp hq
    unfold aClaw at k'
    rw [cif_y (Or.inl q)] at k'; exact k'
  · rcases i32c p with z | ⟨g, hg, rfl⟩
    · exact absurd z q
    · have hg3 := (m_le hg (by omega)).mp q2
      refine X8_clawL hq pk (by omega) (Nat.zero_le _) (fun v a b c h => by omega) (fun X2 Y2 kp2 hq2 => ?_)
      have k' := k _ _ (kp.trans kp2) hq2
      unfold aClaw at k'
      rw [cif_n (fun z => z.elim q (fun z => z q2))] at k'; exact k'
  · have k' := k _ _ kp hq
    unfold aClaw at k'
    rw [cif_y (Or.inr q2)] at k'; exact k'
end Claw8
section Claw9
variable {CM : HX → St → Prop} {X X' : HX} {Y Y' : HY} {s : St} {r : Ly} {Q : Qt}
theorem X9_clawOf_s {p : Nat} (h : Mw CM X Y s) (hN : NV X (Ms s)) (hp : p < 4) (k : Q (rI (clA (clQ s) (nI p))) (LX9 ++ r) X Y) : tX9_clawOf [.ref 0, .int (nI p)] (LX9 ++ r) X Y Q := by
  have g9 := h.si.1
  have h10 := h.sv.1
  apply tX9_clawOf_i
  have H : ∀ n v, v + n = sG s → (∀ v' a b c, v' < v → ¬ clP (Ms s) v' a b c) → hX9_clawOf_2 Q r (nI p) (nI v) X Y := by
    intro n
    induction n with
    | zero =>
      intro v hv hI
      apply hX9_clawOf_2_i
      simp (disch := omega) only [m_0, m_L0, m_lt, m_le, m_eq, m_neg, m_in, m_clamp, m_add, m_sub, m_pred, m_mul, m_l, m_i, m_Land, m_Lor, m_and, m_or, m_xor, m_Landn, m_andn, m_LshlP, m_shl, m_LbitP, m_bit, m_cmp0P, m_Lb0, m_Lb1, m_b0, m_b1, Nat.one_mul, h10]
      refine ⟨by omega, fun _ => ?_, fun h => by omega⟩
      rw [clQ_eq (z := none) (fun v' a b c q => hI v' a b c (by have := (Ms_bd _ _ q.2.2.1).1; omega) q)] at k
      exact k
    | succ n ih =>
      intro v hv hI
      apply hX9_clawOf_2_i
      simp (disch := omega) only [m_0, m_L0, m_lt, m_le, m_eq, m_neg, m_in, m_clamp, m_add, m_sub, m_pred, m_mul, m_l, m_i, m_Land, m_Lor, m_and, m_or, m_xor, m_Landn, m_andn, m_LshlP, m_shl, m_LbitP, m_bit, m_cmp0P, m_Lb0, m_Lb1, m_b0, m_b1, Nat.one_mul, h10]
      refine ⟨by omega, fun h => by omega, fun _ => ?_⟩
      have A : ∀ m a, a + m = sG s → (∀ a' b c, a' < a → ¬ clP (Ms s) v a' b c) → hX9_clawOf_14 Q r (nI p) (nI v) (nI a) X Y := by
        intro m
        induction m with
        | zero =>
          intro a ha hA
          apply hX9_clawOf_14_i
          simp (disch := omega) only [m_0, m_L0, m_lt, m_le, m_eq, m_neg, m_in, m_clamp, m_add, m_sub, m_pred, m_mul, m_l, m_i, m_Land, m_Lor, m_and, m_or, m_xor, m_Landn, m_andn, m_LshlP, m_shl, m_LbitP, m_bit, m_cmp0P, m_Lb0, m_Lb1, m_b0, m_b1, Nat.one_mul, h10]
          refine ⟨by omega, fun _ => ih (v + 1) (by omega) (fun v' a' b c q1 q2 => ?_), fun h => by omega⟩
          by_cases e : v' = v
          · subst e; exact hA a' b c (by have := (Ms_bd _ _ q2.2.2.1).2; omega) q2
          · exact hI v' a' b c (by omega) q2
        | succ m iha =>
          intro a ha hA
          apply hX9_clawOf_14_i
          simp (disch := omega) only [m_0, m_L0, m_lt, m_le, m_eq, m_neg, m_in, m_clamp, m_add, m_sub, m_pred, m_mul, m_l, m_i, m_Land, m_Lor, m_and, m_or, m_xor, m_Landn, m_andn, m_LshlP, m_shl, m_LbitP, m_bit, m_cmp0P, m_Lb0, m_Lb1, m_b0, m_b1, Nat.one_mul, h10]
          refine ⟨by omega, fun h => by omega, fun _ => ?_⟩
          have B : ∀ q b, b + q = sG s → a < b → (∀ b' c, b' < b → ¬ clP (Ms s) v a b' c) → hX9_clawOf_29 Q r (nI p) (nI v) (nI a) (nI b) X Y := by
            intro q
            induction q with
            | zero =>
              intro b hb hab hB
              apply hX9_clawOf_29_i
              simp (disch := omega) only [m_0, m_L0, m_lt, m_le, m_eq, m_neg, m_in, m_clamp, m_add, m_sub, m_pred, m_mul, m_l, m_i, m_Land, m_Lor, m_and, m_or, m_xor, m_Landn, m_andn, m_LshlP, m_shl, m_LbitP, m_bit, m_cmp0P, m_Lb0, m_Lb1, m_b0, m_b1, Nat.one_mul, h10]
              refine ⟨by omega, fun _ => iha (a + 1) (by omega) (fun a' b' c q1 q2 => ?_), fun h => by omega⟩
              by_cases e : a' = a
              · subst e; exact hB b' c (by have := (Ms_bd _ _ q2.2.2.2.1).2; omega) q2
              · exact hA a' b' c (by omega) q2
            | succ q ihb =>
              intro b hb hab hB
              apply hX9_clawOf_29_i
              simp (disch := omega) only [m_0, m_L0, m_lt, m_le, m_eq, m_neg, m_in, m_clamp, m_add, m_sub, m_pred, m_mul, m_l, m_i, m_Land, m_Lor, m_and, m_or, m_xor, m_Landn, m_andn, m_LshlP, m_shl, m_LbitP, m_bit, m_cmp0P, m_Lb0, m_Lb1, m_b0, m_b1, Nat.one_mul, h10]
              refine ⟨by omega, fun h => by omega, fun _ => ?_⟩
              have C : ∀ t c, c + t = sG s → b < c → (∀ c', c' < c → ¬ clP (Ms s) v a b c') → hX9_clawOf_46 Q r (nI p) (nI v) (nI a) (nI b) (nI c) X Y := by
                intro t
                induction t with
                | zero =>
                  intro c hc hbc hC
                  apply hX9_clawOf_46_i
                  simp (disch := omega) only [m_0, m_L0, m_lt, m_le, m_eq, m_neg, m_in, m_clamp, m_add, m_sub, m_pred, m_mul, m_l, m_i, m_Land, m_Lor, m_and, m_or, m_xor, m_Landn, m_andn, m_LshlP, m_shl, m_LbitP, m_bit, m_cmp0P, m_Lb0, m_Lb1, m_b0, m_b1, Nat.one_mul, h10]
                  refine ⟨by omega, fun _ => ihb (b + 1) (by omega) (by omega) (fun b' c' q1 q2 => ?_), fun h => by omega⟩
                  by_cases e : b' = b
                  · subst e; exact hC c' (by have := (Ms_bd _ _ q2.2.2.2.2.1).2; omega) q2
                  · exact hB b' c' (by omega) q2
                | succ t ihc =>
                  intro c hc hbc hC
                  have nx : ¬ clP (Ms s) v a b c → hX9_clawOf_46 Q r (nI p) (nI v) (nI a) (nI b) (nI (c + 1)) X Y := fun h => ihc (c + 1) (by omega) (by omega) (fun c' q => by
                    by_cases e : c' = c
                    · subst e; exact h
                    · exact hC c' (by omega))
                  apply hX9_clawOf_46_i
                  simp (disch := omega) only [m_0, m_L0, m_lt, m_le, m_eq, m_neg, m_in, m_clamp, m_add, m_sub, m_pred, m_mul, m_l, m_i, m_Land, m_Lor, m_and, m_or, m_xor, m_Landn, m_andn, m_LshlP, m_shl, m_LbitP, m_bit, m_cmp0P, m_Lb0, m_Lb1, m_b0, m_b1, Nat.one_mul, h10]
                  refine ⟨by omega, fun h => by omega, fun _ => X9_met_s hN (by omega) (by omega) (fun z1 y1 => cK1_mk ⟨fun u => nx (fun q => by rw [y1.mpr q.2.2.1] at u; exact absurd u (by decide)), fun u1 => X9_met_s hN (by omega) (by omega) (fun z2 y2 => cK1_mk ⟨fun u => nx (fun q => by rw [y2.mpr q.2.2.2.1] at u; exact absurd u (by decide)), fun u2 => X9_met_s hN (by omega) (by omega) (fun z3 y3 => cK1_mk ⟨fun u => nx (fun q => by rw [y3.mpr q.2.2.2.2.1] at u; exact absurd u (by decide)), fun u3 => X9_met_s hN (by omega) (by omega) (fun z4 y4 => cK1_mk ⟨fun u => nx (fun q => q.2.2.2.2.2.1 (y4.mp (z11 u))), fun u4 => X9_met_s hN (by omega) (by omega) (fun z5 y5 => cK1_mk ⟨fun u => nx (fun q => q.2.2.2.2.2.2.1 (y5.mp (z11 u))), fun u5 => X9_met_s hN (by omega) (by omega) (fun z6 y6 => cK1_mk ⟨fun u => nx (fun q => q.2.2.2.2.2.2.2 (y6.mp (z11 u))), fun u6 => ?_⟩)⟩)⟩)⟩)⟩)⟩)⟩
                  have hcl : clR (Ms s) (some (v, a, b, c)) := by
                    refine ⟨⟨hab, hbc, y1.mp (z11 u1), y2.mp (z11 u2), y3.mp (z11 u3), fun q => u4 (by rw [y4.mpr q]; decide), fun q => u5 (by rw [y5.mpr q]; decide), fun q => u6 (by rw [y6.mpr q]; decide)⟩, fun v' a' b' c' q => ?_⟩
                    by_cases e1 : v' < v
                    · exact absurd q (hI v' a' b' c' e1)
                    · by_cases e2 : v' = v
                      · subst e2
                        refine Or.inr ⟨rfl, ?_⟩
                        by_cases e3 : a' < a
                        · exact absurd q (hA a' b' c' e3)
                        · by_cases e4 : a' = a
                          · subst e4
                            refine Or.inr ⟨rfl, ?_⟩
                            by_cases e5 : b' < b
                            · exact absurd q (hB b' c' e5)
                            · by_cases e6 : b' = b
                              · subst e6
                                exact Or.inr ⟨rfl, Nat.le_of_not_lt (fun z => hC c' z q)⟩
                              · exact Or.inl (by omega)
                          · exact Or.inl (by omega)
                      · exact Or.inl (by omega)
                  have k' := k
                  rw [clQ_eq hcl] at k'
                  have c4 : p = 0 ∨ p = 1 ∨ p = 2 ∨ p = 3 := by omega
                  rcases c4 with rfl | rfl | rfl | rfl
                  · exact ⟨fun u => absurd rfl u, fun _ => k'⟩
                  · exact ⟨fun _ => ⟨fun u => absurd rfl u, fun _ => k'⟩, fun u => (u (by decide)).elim⟩
                  · exact ⟨fun _ => ⟨fun _ => ⟨fun u => absurd rfl u, fun _ => k'⟩, fun u => (u (by decide)).elim⟩, fun u => (u (by decide)).elim⟩
                  · exact ⟨fun _ => ⟨fun _ => ⟨fun _ => k', fun u => (u (by decide)).elim⟩, fun u => (u (by decide)).elim⟩, fun u => (u (by decide)).elim⟩
              exact C _ (b + 1) (Nat.add_sub_cancel' (by omega : b + 1 ≤ sG s)) (by omega) (fun c' h1 h2 => by have := h2.2.1; omega)
          exact B _ (a + 1) (Nat.add_sub_cancel' (by omega : a + 1 ≤ sG s)) (by omega) (fun b' c' h1 h2 => by have := h2.1; omega)
      exact A _ 0 (Nat.zero_add _) (fun a' b c h => by omega)
  exact H _ 0 (Nat.zero_add _) (fun v' a b c h => by omega)
theorem X9_claw_s {p : Int32} (h : Mw CM X Y s) (k : ∀ X' Y' res, ScM X X' Y Y' → Mw CM X' Y' s → ansM cd1 (aClaw s p) (X' 0 0) res → Q res (LX9 ++ r) X' Y') : tX9_claw [.ref 0, .int p] (LX9 ++ r) X Y Q := by
  have s0 : ScM X (up2 X 0 0 (nI 0)) Y Y := .up (by decide)
  apply tX9_claw_i
  refine Q9_plain (h.sc s0) (fun X1 sc1 e1 h1 n1 _ _ => cK0_mk (Q9_in (by omega) (by omega) (fun z hz => cK1_mk ?_)))
  have kk := fun res => k X1 Y res (s0.trans sc1) h1
  unfold aClaw at kk
  rw [e1, up2_same] at kk
  have iff : (p < 0 ∨ ¬ p ≤ nI 3) ↔ ¬ z = true := by
    rw [hz]
    rcases i32c p with q | ⟨g, hg, rfl⟩
    · exact ⟨fun _ y => y.1 q, fun _ => Or.inl q⟩
    · rw [m_le hg (by omega), m_lt (a := 3) (by omega) hg, m_lt hg (by omega)]
      have := nI_nn hg
      constructor
      · rintro (q | q)
        · exact absurd q this
        · intro y; omega
      · intro y; right; intro q; exact y ⟨by omega, by omega⟩
  refine ⟨fun q => ?_, fun q => ?_⟩
  · have hz0 : ¬ z = true := fun y => by rw [y] at q; exact absurd q (by decide)
    rw [cif_y (iff.mpr hz0)] at kk
    exact kk _ ⟨rfl, rfl⟩
  · have hz1 := z11 q
    have hn : ¬ (p < 0 ∨ ¬ p ≤ nI 3) := fun y => iff.mp y hz1
    rw [cif_n hn] at kk
    rcases i32c p with y | ⟨g, hg, rfl⟩
    · exact absurd (Or.inl y) hn
    · have hg3 : g ≤ 3 := (m_le hg (by omega)).mp (Classical.not_not.mp (fun y => hn (Or.inr y)))
      exact X9_clawOf_s h1 n1 (by omega) (cK1_mk (kk _ ⟨rfl, rfl⟩))
end Claw9
