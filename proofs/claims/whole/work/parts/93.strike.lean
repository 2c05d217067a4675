/-! strike, by the class and by the reference -/
/-- one MEMORY is in force, or struck, from now on -/
def stF (s : St) (k0 : Nat) (v : Bool) : St := (sG s, sN s, sWd s, sFi s, sSe s, sTe s, sSu s, (fun i => if i = k0 then v else sFo s i), sCa s, sWe s)
theorem stF_same {s : St} {k0 : Nat} {v : Bool} (h : sFo s k0 = v) : stF s k0 v = s := by
  have e : (fun i => if i = k0 then v else sFo s i) = sFo s := funext fun i => by
    by_cases q : i = k0
    · rw [if_pos q, q, h]
    · rw [if_neg q]
  unfold stF
  rw [e]
  rfl
theorem fm_tog {s : St} {k0 : Nat} {v : Bool} (hk : k0 < sN s) (h : sFo s k0 = !v) : fm s ^^^ 2 ^ k0 = fm (stF s k0 v) := by
  show bmk (sFo s) (sN s) ^^^ 2 ^ k0 = bmk (fun i => if i = k0 then v else sFo s i) (sN s)
  apply Nat.eq_of_testBit_eq
  intro i
  rw [Nat.testBit_xor, Nat.testBit_two_pow, bmk_bit, bmk_bit]
  by_cases q : i = k0
  · subst q
    rw [if_pos rfl, h]
    cases v <;> simp [hk]
  · have : decide (k0 = i) = false := decide_eq_false (fun e => q e.symm)
    rw [if_neg q, this, Bool.xor_false]
noncomputable def aStrike (s : St) (k0 : Nat) (v : Bool) : Rs := rI (nI (sFo s k0 != v).toNat)
/-- what isn't told in the book stays -/
def KpS (b : Bool) (X X' : HX) (Y Y' : HY) : Prop := (∀ c, c < nC8 b → (c < 9 ∨ (9 < c ∧ c < 25) ∨ c = 61 ∨ 79 ≤ c) → X' c = X c ∧ Y' c = Y c) ∧ X' 9 = X 9
section Strk
variable {CK S1 S2 : HX → St → Prop} {CM : HX → St → Prop} {X X' : HX} {Y Y' : HY} {s : St} {b : Bool} {Q : Qt} {r : Ly}
theorem X8_strike_s {p q : Int32} (hq : q = nI 0 ∨ q = nI 1) (h : Qw CK S1 S2 X Y s) (k1 : ∀ k0 X' Y', p = nI k0 → k0 < sN s → KpS b X X' Y Y' → Qw CK S1 S2 X' Y' (stF s k0 (decide (q = nI 0))) → Q (aStrike s k0 (decide (q = nI 0))) (LX8 b) X' Y') (k2 : ¬ isM s p → Q (.inr XI) (LX8 b) X Y) : tX8_strike b [.ref 0, .int p, .int q] (LX8 b) X Y Q := by
  have n40 := h.si.2.1
  have n79 := nC8_79 b
  apply tX8_strike_i
  refine Q8_mem h (fun hp => cK0_mk ?_) (fun hp => cK0_ex (k2 hp))
  obtain ⟨k0, hk, rfl⟩ := isM_c hp
  refine Q8_force h hk (fun X1 Y1 e h1 => ?_)
  have f40 := fm_lt h.si
  have same : sFo s k0 = decide (q = nI 0) → Q (.inl (some (.int (nI 0)))) (LX8 b) X1 Y1 := fun hf => by
    have k' := k1 k0 X1 Y1 rfl hk ⟨fun c hc _ => e c hc, (e 9 (by omega)).1⟩ (by rw [stF_same hf]; exact h1)
    unfold aStrike at k'
    rw [hf, bne_self_eq_false] at k'
    exact k'
  have tog : sFo s k0 = (!decide (q = nI 0)) → tX8_forget b [.ref 0] (LX8 b) X1 (up2 Y1 9 2 ((Y1 9 2) ^^^ ((lN 1) <<< ((nI k0).toInt64 &&& 63)))) (cK0 (LX8 b) Q (fun X4 Y4 => ((nI 1) = 0 ∨ (nI 1) = 1) ∧ Q (.inl (some (.int (nI 1)))) (LX8 b) X4 Y4)) := fun hf => by
    have ew : (Y1 9 2) ^^^ ((lN 1) <<< ((nI k0).toInt64 &&& 63)) = lN (fm (stF s k0 (decide (q = nI 0)))) := by
      rw [h1.2.2.2.1, ← fm_tog hk hf]
      simp (disch := omega) only [m_0, m_L0, m_lt, m_le, m_eq, m_neg, m_in, m_clamp, m_add, m_sub, m_pred, m_mul, m_l, m_i, m_Land, m_Lor, m_and, m_or, m_xor, m_Landn, m_andn, m_LshlP, m_shl, m_LbitP, m_bit, m_cmp0P, m_Lb0, m_Lb1, m_b0, m_b1, Nat.one_mul]
      exact m_Lxor _ _
    rw [ew]
    apply tX8_forget_i
    refine ⟨(by first | exact Or.inl rfl | exact Or.inr rfl | exact Or.inl trivial | exact Or.inr trivial), (by first | exact Or.inl rfl | exact Or.inr rfl | exact Or.inl trivial | exact Or.inr trivial), (by first | exact Or.inl rfl | exact Or.inr rfl | exact Or.inl trivial | exact Or.inr trivial), (by first | exact Or.inl rfl | exact Or.inr rfl | exact Or.inl trivial | exact Or.inr trivial), (by first | exact Or.inl rfl | exact Or.inr rfl | exact Or.inl trivial | exact Or.inr trivial), (by first | exact Or.inl rfl | exact Or.inr rfl | exact Or.inl trivial | exact Or.inr trivial), cK0_mk ⟨(by first | exact Or.inl rfl | exact Or.inr rfl | exact Or.inl trivial | exact Or.inr trivial), ?_⟩⟩
    have fz : ∀ c, c ≠ 25 → c ≠ 41 → c ≠ 49 → c ≠ 65 → c ≠ 76 → c ≠ 77 → up2 (up2 (up2 (up2 (up2 (up2 X1 25 3 (nI 0)) 41 4 (nI 0)) 49 4 (nI 0)) 65 6 (nI 0)) 76 0 (nI 0)) 77 0 (nI 0) c = X1 c := fun c q1 q2 q3 q4 q5 q6 => by
      rw [up2_row q6, up2_row q5, up2_row q4, up2_row q3, up2_row q2, up2_row q1]
    have g1 : up2 (up2 (up2 (up2 (up2 (up2 X1 25 3 (nI 0)) 41 4 (nI 0)) 49 4 (nI 0)) 65 6 (nI 0)) 76 0 (nI 0)) 77 0 (nI 0) 25 3 = nI 0 := by
      rw [up2_row (by omega), up2_row (by omega), up2_row (by omega), up2_row (by omega), up2_row (by omega), up2_same]
    have g2 : up2 (up2 (up2 (up2 (up2 (up2 X1 25 3 (nI 0)) 41 4 (nI 0)) 49 4 (nI 0)) 65 6 (nI 0)) 76 0 (nI 0)) 77 0 (nI 0) 41 4 = nI 0 := by
      rw [up2_row (by omega), up2_row (by omega), up2_row (by omega), up2_row (by omega), up2_same]
    have g3 : up2 (up2 (up2 (up2 (up2 (up2 X1 25 3 (nI 0)) 41 4 (nI 0)) 49 4 (nI 0)) 65 6 (nI 0)) 76 0 (nI 0)) 77 0 (nI 0) 49 4 = nI 0 := by
      rw [up2_row (by omega), up2_row (by omega), up2_row (by omega), up2_same]
    have g4 : up2 (up2 (up2 (up2 (up2 (up2 X1 25 3 (nI 0)) 41 4 (nI 0)) 49 4 (nI 0)) 65 6 (nI 0)) 76 0 (nI 0)) 77 0 (nI 0) 65 6 = nI 0 := by
      rw [up2_row (by omega), up2_row (by omega), up2_same]
    have g5 : up2 (up2 (up2 (up2 (up2 (up2 X1 25 3 (nI 0)) 41 4 (nI 0)) 49 4 (nI 0)) 65 6 (nI 0)) 76 0 (nI 0)) 77 0 (nI 0) 76 0 = nI 0 := by
      rw [up2_row (by omega), up2_same]
    have g6 : up2 (up2 (up2 (up2 (up2 (up2 X1 25 3 (nI 0)) 41 4 (nI 0)) 49 4 (nI 0)) 65 6 (nI 0)) 76 0 (nI 0)) 77 0 (nI 0) 77 0 = nI 0 := up2_same
    revert fz g1 g2 g3 g4 g5 g6
    generalize up2 (up2 (up2 (up2 (up2 (up2 X1 25 3 (nI 0)) 41 4 (nI 0)) 49 4 (nI 0)) 65 6 (nI 0)) 76 0 (nI 0)) 77 0 (nI 0) = Z
    intro fz g1 g2 g3 g4 g5 g6
    have ez : ∀ c, c < nC8 b → (c < 25 ∨ c = 61 ∨ 79 ≤ c) → Z c = X c := fun c hc hd => by rw [fz c (by omega) (by omega) (by omega) (by omega) (by omega) (by omega), (e c hc).1]
    have bz : BV 9 Z s := h1.bv.of (fun c q1 q2 => fz c (by omega) (by omega) (by omega) (by omega) (by omega) (by omega))
    have w := h1.2.2.2.2.1
    have pv := h1.2.2.2.2.2.1
    have hz : Qw CK S1 S2 Z (up2 Y1 9 2 (lN (fm (stF s k0 (decide (q = nI 0)))))) (stF s k0 (decide (q = nI 0))) := by
      refine ⟨h1.1, h1.si, bz, up2_same, ⟨by rw [fz 33 (by omega) (by omega) (by omega) (by omega) (by omega) (by omega)]; exact w.1, by rw [fz 37 (by omega) (by omega) (by omega) (by omega) (by omega) (by omega)]; exact w.2⟩, fun t ht => ?_, Or.inl g1, Or.inl g2, Or.inl g3, Or.inl g4, Or.inl g5, Or.inl g6⟩
      have := pv t ht
      show Z 45 t = _ ∧ _
      rw [fz 45 (by omega) (by omega) (by omega) (by omega) (by omega) (by omega)]
      exact this
    have k' := k1 k0 Z _ rfl hk ⟨fun c hc hd => ⟨ez c hc (by omega), by rw [up2_row (by omega)]; exact (e c hc).2⟩, ez 9 (by omega) (by omega)⟩ hz
    unfold aStrike at k'
    rw [hf] at k'
    cases hd : decide (q = nI 0) with
    | false => rw [hd] at k'; exact k'
    | true => rw [hd] at k'; exact k'
  rcases hq with rfl | rfl
  · cases hf : sFo s k0 with
    | false => exact ⟨fun _ => tog (by rw [hf]; rfl), fun y => absurd rfl y⟩
    | true => exact ⟨fun y => absurd y (by decide), fun _ => ⟨(by first | exact Or.inl rfl | exact Or.inr rfl | exact Or.inl trivial | exact Or.inr trivial), same (by rw [hf]; rfl)⟩⟩
  · cases hf : sFo s k0 with
    | false => exact ⟨fun y => absurd y (by decide), fun _ => ⟨(by first | exact Or.inl rfl | exact Or.inr rfl | exact Or.inl trivial | exact Or.inr trivial), same (by rw [hf]; rfl)⟩⟩
    | true => exact ⟨fun _ => tog (by rw [hf]; rfl), fun y => absurd rfl y⟩
end Strk
