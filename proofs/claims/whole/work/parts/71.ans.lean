/-! answers, as what was told decides them -/
theorem i32c (x : Int32) : x < 0 ∨ ∃ p, p < 2147483648 ∧ x = nI p := by
  by_cases h : x < 0
  · exact Or.inl h
  · right
    have h1 : 0 ≤ x.toInt := by
      rw [Int32.lt_iff_toInt_lt] at h
      have : (0 : Int32).toInt = 0 := rfl
      omega
    have h2 := Int32.toInt_lt x
    refine ⟨x.toInt.toNat, by omega, ?_⟩
    rw [← Int32.toInt_inj, nI_toInt (by omega)]
    omega
theorem nI_nn {p : Nat} (h : p < 2147483648) : ¬ nI p < 0 := by
  intro q
  rw [Int32.lt_iff_toInt_lt, nI_toInt h] at q
  have : (0 : Int32).toInt = 0 := rfl
  omega
theorem eps_uq {α : Type} [Nonempty α] {P : α → Prop} {z : α} (h : P z) (u : ∀ y, P y → y = z) : Classical.epsilon P = z := u _ (Classical.epsilon_spec ⟨z, h⟩)
/-- 1 if it is so -/
noncomputable def iB (P : Prop) : Int32 := @ite Int32 P (Classical.propDecidable P) (nI 1) (nI 0)
theorem iB_of {z : Bool} {P : Prop} (h : z = true ↔ P) : nI z.toNat = iB P := by
  unfold iB
  by_cases q : P
  · rw [if_pos q, h.mpr q]; rfl
  · rw [if_neg q, show z = false by cases z; rfl; exact absurd (h.mp rfl) q]; rfl
theorem iB01 (P : Prop) : iB P = 0 ∨ iB P = 1 := by
  unfold iB
  by_cases q : P
  · rw [if_pos q]; exact Or.inr rfl
  · rw [if_neg q]; exact Or.inl rfl
theorem iB_y {P : Prop} (h : P) : iB P = nI 1 := by unfold iB; rw [if_pos h]
theorem iB_n {P : Prop} (h : ¬ P) : iB P = nI 0 := by unfold iB; rw [if_neg h]
/-- which order of moments may go on how, with all that is told as met -/
noncomputable def mayQ (s : St) : Nat → Nat → Prop := mayS (rwM (Ms s) (sG s)) (sG s)
/-- it can be laid -/
def layQ (s : St) : Prop := cnB (Ms s) (2 ^ sG s - 1)
section Ans
variable {s : St}
theorem rwG_out {v : Nat} (h : ¬ v < sG s) (k : Nat) : ¬ Bs (rwG (so s) (sm s) v) k := fun q => by
  obtain ⟨q1, q2⟩ := rwG_bit.mp q
  exact h (mo_bit q1 q2)
theorem may_eq (hI : SI s) : mayG (so s) (sm s) P0 = mayQ s := by
  funext c k
  apply propext
  have g9 := hI.1
  constructor
  · rintro ⟨h, -⟩ v hv
    exact h v (by omega)
  · intro h
    refine ⟨fun v hv h1 h2 => ?_, fun j hj => by simp [P0, Bs] at hj⟩
    by_cases q : v < sG s
    · exact h v q h1 h2
    · obtain ⟨j, hj, -⟩ := h1
      exact absurd hj (rwG_out q j)
theorem mayN_eq (h : sm s ≤ 9) : mayN (rwF (Ms s) (sG s)) (sG s) [] none = mayQ s := by
  funext c k
  apply propext
  have e : rwF (Ms s) (sG s) = rwM (Ms s) (sG s) := by
    funext v; unfold rwF; rw [if_pos (by show sm s < 10; omega)]
  rw [e]
  exact ⟨fun q => q.1, fun q => ⟨q, fun p hp => by simp at hp, trivial⟩⟩
theorem lay_ld (hI : SI s) : ldP (sm s) (so s) P0 ↔ layQ s := by
  unfold ldP layQ
  rw [may_eq hI, can_iff (Ms_sym hI) (Ms_irr hI) hI.1]
  rfl
theorem lay_9 (hI : SI s) (h : layQ s) : sm s ≤ 9 := ((lay_ld hI).mpr h).1
theorem lay_wy (hI : SI s) (h : layQ s) : 0 < wy (sm s) (mayQ s) 0 := by
  have := ((lay_ld hI).mpr h).2
  rw [may_eq hI] at this; exact this
/-- THE LEAST -/
noncomputable def leQ (s : St) : Nat → Nat := Classical.epsilon (LsP (sm s) (mayQ s))
theorem le_ex {m : Nat} {may : Nat → Nat → Prop} (h : 0 < wy m may 0) : ∃ le, LsP m may le := by
  have H : ∀ n p (le : Nat → Nat), p + n = m → LyN m may p le → 0 < wy m may (ctO le p) → (∀ i, i < p → ∀ k, stE m may (ctO le i) k → le i ≤ k) → ∃ le, LsP m may le := by
    intro n
    induction n with
    | zero =>
      intro p le hp h1 _ h3
      have e : p = m := by omega
      subst e
      exact ⟨le, h1, h3⟩
    | succ n ih =>
      intro p le hp h1 h2 h3
      have hc := (h1.cut p (Nat.le_refl _)).1
      have hf : ctO le p ≠ 2 ^ m - 1 := fun e => by
        have := (h1.cut p (Nat.le_refl _)).2; rw [e, mis_full] at this; omega
      obtain ⟨k0, hk0, hb0, hy0, hw0⟩ := wy_pos hc hf h2
      obtain ⟨k, hk, hmin⟩ := g_min (stE m may (ctO le p)) (fun k => k) k0 (live_e h1.rc hk0 hb0 hy0 hw0)
      obtain ⟨o, ho, i, hi, q1, q2⟩ := id hk
      have hst := ho i hi
      rw [q1, q2] at hst
      have hpos := ho.pos _ (i + 1) rfl (by omega)
      simp only [ctO] at hpos
      rw [q1, q2] at hpos
      have e0 : ∀ i, i < p → (fun i => if i = p then k else le i) i = le i := fun i hi => if_neg (by omega)
      have ep : (fun i => if i = p then k else le i) p = k := if_pos rfl
      refine ih (p + 1) (fun i => if i = p then k else le i) (by omega) (fun j hj => ?_) ?_ (fun j hj x hx => ?_)
      · by_cases e : j = p
        · subst e
          rw [ctO_eq e0, ep]; exact hst
        · rw [ctO_eq (fun i hi => e0 i (by omega)), e0 j (by omega)]; exact h1 j (by omega)
      · simp only [ctO]; rw [ctO_eq e0]; simp only [if_true]; exact hpos
      · by_cases e : j = p
        · subst e
          rw [ctO_eq e0] at hx
          rw [if_pos rfl]; exact hmin x hx
        · rw [ctO_eq (fun i hi => e0 i (by omega))] at hx
          rw [if_neg e]; exact h3 j (by omega) x hx
  exact H m 0 (fun _ => 0) (Nat.zero_add _) (fun i hi => by omega) h (fun i hi => by omega)
theorem leQ_is (hI : SI s) (h : layQ s) : LsP (sm s) (mayQ s) (leQ s) := Classical.epsilon_spec (le_ex (lay_wy hI h))
theorem leQ_eq (hI : SI s) (h : layQ s) {le : Nat → Nat} (hl : LsP (sm s) (mayQ s) le) : ∀ p, p < sm s → le p = leQ s p := LsP_uq hl (leQ_is hI h)
theorem leQ_lt (hI : SI s) (h : layQ s) : ∀ p, p < sm s → leQ s p < sm s := fun p hp => ((leQ_is hI h).1 p hp).1
/-- the first and the last place of a guest in THE LEAST -/
noncomputable def fpQ (s : St) (g : Nat) : Nat := Classical.epsilon (fun p => p < sm s ∧ Bs (so s (leQ s p)) g ∧ ∀ i, i < p → ¬ Bs (so s (leQ s i)) g)
noncomputable def lpQ (s : St) (g : Nat) : Nat := Classical.epsilon (fun p => p < sm s ∧ Bs (so s (leQ s p)) g ∧ ∀ i, p < i → i < sm s → ¬ Bs (so s (leQ s i)) g)
theorem pl_ex (hI : SI s) (h : layQ s) {g : Nat} (hg : g < sG s) : ∃ p, p < sm s ∧ Bs (so s (leQ s p)) g := by
  obtain ⟨k, hk, hb⟩ := mo_has (Ms_sym hI) hg
  obtain ⟨i, hi, rfl⟩ := (leQ_is hI h).1.onto hk
  exact ⟨i, hi, hb⟩
theorem fpQ_is (hI : SI s) (h : layQ s) {g : Nat} (hg : g < sG s) : fpQ s g < sm s ∧ Bs (so s (leQ s (fpQ s g))) g ∧ ∀ i, i < fpQ s g → ¬ Bs (so s (leQ s i)) g := by
  refine Classical.epsilon_spec (p := fun p => p < sm s ∧ Bs (so s (leQ s p)) g ∧ ∀ i, i < p → ¬ Bs (so s (leQ s i)) g) ?_
  obtain ⟨p, hp, hb⟩ := pl_ex hI h hg
  obtain ⟨q, ⟨q1, q2⟩, q3⟩ := g_min (fun p => p < sm s ∧ Bs (so s (leQ s p)) g) (fun p => p) p ⟨hp, hb⟩
  exact ⟨q, q1, q2, fun i hi hbi => by have := q3 i ⟨by omega, hbi⟩; omega⟩
theorem lpQ_is (hI : SI s) (h : layQ s) {g : Nat} (hg : g < sG s) : lpQ s g < sm s ∧ Bs (so s (leQ s (lpQ s g))) g ∧ ∀ i, lpQ s g < i → i < sm s → ¬ Bs (so s (leQ s i)) g := by
  refine Classical.epsilon_spec (p := fun p => p < sm s ∧ Bs (so s (leQ s p)) g ∧ ∀ i, p < i → i < sm s → ¬ Bs (so s (leQ s i)) g) ?_
  obtain ⟨p, hp, hb⟩ := pl_ex hI h hg
  obtain ⟨q, q1, q2, q3⟩ := last_ex (p := fun p => Bs (so s (leQ s p)) g) (n := sm s) ⟨p, hp, hb⟩
  exact ⟨q, q1, q2, fun i h1 h2 => q3 i h1 h2⟩
theorem Pl_is (hI : SI s) (h : layQ s) : PlO (sm s) (sG s) (so s) (leQ s) (fpQ s) (lpQ s) := fun _ hg => ⟨fpQ_is hI h hg, lpQ_is hI h hg⟩
theorem Pl_r (hI : SI s) (h : layQ s) : PlR (sm s) (sG s) (rwF (Ms s) (sG s)) (leQ s) (fpQ s) (lpQ s) := by
  have e : ∀ g k, k < sm s → (Bs (rwF (Ms s) (sG s) g) k ↔ Bs (so s k) g) := fun g k hk => by
    unfold rwF; rw [if_pos (by have := lay_9 hI h; show sm s < 10; omega), rwM_bit]
    exact ⟨fun q => q.2, fun q => ⟨hk, q⟩⟩
  have hl := leQ_lt hI h
  intro g hg
  obtain ⟨a1, a2, a3⟩ := fpQ_is hI h hg
  obtain ⟨b1, b2, b3⟩ := lpQ_is hI h hg
  exact ⟨⟨a1, (e g _ (hl _ a1)).mpr a2, fun i hi q => a3 i hi ((e g _ (hl _ (by omega))).mp q)⟩, b1, (e g _ (hl _ b1)).mpr b2, fun i h1 h2 q => b3 i h1 h2 ((e g _ (hl _ h2)).mp q)⟩
/-- rooms -/
noncomputable def rmQ (s : St) : Nat → Nat := Classical.epsilon (rmD (fun g => g < sG s) (fpQ s) (lpQ s))
theorem rmQ_eq {R : Nat → Nat} (h : rmD (fun g => g < sG s) (fpQ s) (lpQ s) R) : ∀ g, g < sG s → R g = rmQ s g := rmD_uq h (Classical.epsilon_spec (p := rmD (fun g => g < sG s) (fpQ s) (lpQ s)) ⟨R, h⟩)
end Ans
/-- is it a guest's number -/
def isG (s : St) (x : Int32) : Prop := ¬ x < 0 ∧ x.toNatClampNeg < sG s
theorem isG_n {s : St} {g : Nat} (h : g < 2147483648) : isG s (nI g) ↔ g < sG s := by
  unfold isG
  rw [m_clamp h]
  exact ⟨fun q => q.2, fun q => ⟨nI_nn h, q⟩⟩
theorem isG_c {s : St} {x : Int32} (h : isG s x) : ∃ g, g < sG s ∧ x = nI g := by
  rcases i32c x with q | ⟨p, hp, rfl⟩
  · exact absurd q h.1
  · exact ⟨p, (isG_n hp).mp h, rfl⟩
/-! how a method's answer looks -/
abbrev XI : String := "java/lang/IndexOutOfBoundsException"
abbrev XN : String := "java/util/NoSuchElementException"
abbrev XS : String := "java/lang/IllegalStateException"
abbrev XA : String := "java/lang/IllegalArgumentException"
abbrev XU : String := "java/lang/UnsupportedOperationException"
abbrev rI (x : Int32) : Rs := .inl (some (.int x))
abbrev rL (x : Int64) : Rs := .inl (some (.long x))
