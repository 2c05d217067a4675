/-! between and span, by the reference -/
section Spn0
variable {m : Nat} {may : Nat → Nat → Prop}
/-- handled ones alone: the cuts ahead of c, and of c the first k -/
def dnA (m : Nat) (may : Nat → Nat → Prop) (F : Nat → Nat → Nat → Prop) (c k i : Nat) : Prop := ∃ c' k', (c' < c ∨ (c' = c ∧ k' < k)) ∧ stE m may c' k' ∧ F c' k' i
theorem dnA_skip {F : Nat → Nat → Nat → Prop} {c k i : Nat} (h : ¬ (stE m may c k ∧ F c k i)) : dnA m may F c (k + 1) i ↔ dnA m may F c k i := by
  constructor
  · rintro ⟨c', k', h1, h2, h3⟩
    rcases h1 with h1 | ⟨h1, h4⟩
    · exact ⟨c', k', Or.inl h1, h2, h3⟩
    · subst h1
      by_cases e : k' = k
      · subst e; exact absurd ⟨h2, h3⟩ h
      · exact ⟨c', k', Or.inr ⟨rfl, by omega⟩, h2, h3⟩
  · rintro ⟨c', k', h1, h2, h3⟩
    exact ⟨c', k', h1.imp id (fun z => ⟨z.1, by omega⟩), h2, h3⟩
theorem dnA_add {F : Nat → Nat → Nat → Prop} {c k i : Nat} (h : stE m may c k) : dnA m may F c (k + 1) i ↔ dnA m may F c k i ∨ F c k i := by
  constructor
  · rintro ⟨c', k', h1, h2, h3⟩
    rcases h1 with h1 | ⟨h1, h4⟩
    · exact Or.inl ⟨c', k', Or.inl h1, h2, h3⟩
    · subst h1
      by_cases e : k' = k
      · subst e; exact Or.inr h3
      · exact Or.inl ⟨c', k', Or.inr ⟨rfl, by omega⟩, h2, h3⟩
  · rintro (⟨c', k', h1, h2, h3⟩ | h3)
    · exact ⟨c', k', h1.imp id (fun z => ⟨z.1, by omega⟩), h2, h3⟩
    · exact ⟨c, k, Or.inr ⟨rfl, by omega⟩, h, h3⟩
theorem dnA_next {F : Nat → Nat → Nat → Prop} {c k i : Nat} (h : ∀ k', stE m may c k' → k' < k) : dnA m may F (c + 1) 0 i ↔ dnA m may F c k i := by
  constructor
  · rintro ⟨c', k', h1, h2, h3⟩
    rcases h1 with h1 | ⟨h1, h4⟩
    · by_cases e : c' = c
      · subst e; exact ⟨c', k', Or.inr ⟨rfl, h k' h2⟩, h2, h3⟩
      · exact ⟨c', k', Or.inl (by omega), h2, h3⟩
    · omega
  · rintro ⟨c', k', h1, h2, h3⟩
    rcases h1 with h1 | ⟨h1, h4⟩
    · exact ⟨c', k', Or.inl (by omega), h2, h3⟩
    · exact ⟨c', k', Or.inl (by omega), h2, h3⟩
theorem stE_b {c k : Nat} (h : stE m may c k) : k < m ∧ c < 2 ^ m ∧ c.testBit k = false ∧ may c k ∧ 0 < wy m may (c ||| 2 ^ k) ∧ rcP m may c := by
  obtain ⟨o, ho, j, hj, q1, q2⟩ := h
  have h9 := ho j hj
  rw [q1, q2] at h9
  have h8 := ho.pos _ (j + 1) rfl (by omega)
  simp only [ctO] at h8
  rw [q1, q2] at h8
  have hp : LyN m may j o := fun i hi => ho i (by omega)
  exact ⟨h9.1, by rw [← q1]; exact (ho.cut j (by omega)).1, h9.2.1, h9.2.2, h8, by rw [← q1]; exact hp.rc⟩
/-- what is reached -/
def rchF (c k d : Nat) : Prop := d = c ||| 2 ^ k
theorem rch_rc {c : Nat} (h : c = 0 ∨ dnA m may rchF c 0 c) : rcP m may c := by
  rcases h with rfl | ⟨c', k', -, h2, h3⟩
  · exact rcP.zero
  · obtain ⟨b1, b2, b3, b4, -, b5⟩ := stE_b h2
    rw [show c = c' ||| 2 ^ k' from h3]
    exact b5.step b2 b1 b3 b4
theorem rch_no {c k : Nat} (h : ¬ (c = 0 ∨ dnA m may rchF c 0 c)) : ¬ stE m may c k := by
  rintro ⟨o, ho, j, hj, q1, q2⟩
  apply h
  cases j with
  | zero => exact Or.inl q1.symm
  | succ i =>
    right
    have e : c = ctO o i ||| 2 ^ o i := by rw [← q1]; rfl
    have hb := (ho i (by omega)).2.1
    refine ⟨ctO o i, o i, Or.inl ?_, ⟨o, ho, i, by omega, rfl, rfl⟩, e⟩
    rw [e]
    exact Nat.lt_of_le_of_ne Nat.left_le_or (fun e3 => by
      have := hb
      rw [e3, or_bit] at this; simp at this)
/-- the least, the greatest so far -/
def bL (P : Nat → Prop) (z : Int) : Prop := (z = -1 ∧ ∀ p, ¬ P p) ∨ ∃ p : Nat, z = p ∧ P p ∧ ∀ q, P q → p ≤ q
def bH (P : Nat → Prop) (z : Int) : Prop := (z = -1 ∧ ∀ p, ¬ P p) ∨ ∃ p : Nat, z = p ∧ P p ∧ ∀ q, P q → q ≤ p
def bW (l : Int32) (P : Nat → Prop) (z : Int) : Prop := if l = 0 then bL P z else bH P z
theorem bW_eq {l : Int32} {P P' : Nat → Prop} {z : Int} (h : bW l P z) (e : ∀ p, P' p ↔ P p) : bW l P' z := by
  have : P' = P := funext fun p => propext (e p)
  rw [this]; exact h
theorem bW_cs {l : Int32} {P : Nat → Prop} {z : Int} (h : bW l P z) : (z = -1 ∧ ∀ p, ¬ P p) ∨ ∃ p : Nat, z = p ∧ P p := by
  unfold bW at h
  split at h
  · rcases h with h | ⟨p, h1, h2, -⟩
    · exact Or.inl h
    · exact Or.inr ⟨p, h1, h2⟩
  · rcases h with h | ⟨p, h1, h2, -⟩
    · exact Or.inl h
    · exact Or.inr ⟨p, h1, h2⟩
theorem bW_1 {l : Int32} {P P' : Nat → Prop} {i : Nat} (hn : ∀ p, ¬ P p) (e : ∀ p, P' p ↔ P p ∨ p = i) : bW l P' i := by
  unfold bW
  split
  · exact Or.inr ⟨i, rfl, (e i).mpr (Or.inr rfl), fun q hq => ((e q).mp hq).elim (fun z => absurd z (hn q)) (fun z => by omega)⟩
  · exact Or.inr ⟨i, rfl, (e i).mpr (Or.inr rfl), fun q hq => ((e q).mp hq).elim (fun z => absurd z (hn q)) (fun z => by omega)⟩
theorem bW_2 {l : Int32} {P P' : Nat → Prop} {p i : Nat} (h : bW l P p) (e : ∀ p, P' p ↔ P p ∨ p = i) : (l = 0 → bW l P' (if p ≤ i then p else i : Nat)) ∧ (¬ l = 0 → bW l P' (if i ≤ p then p else i : Nat)) := by
  unfold bW at h ⊢
  constructor
  · intro q
    rw [if_pos q] at h ⊢
    rcases h with ⟨h, -⟩ | ⟨x, h1, h2, h3⟩
    · omega
    · have : x = p := by omega
      subst this
      by_cases c : x ≤ i
      · rw [if_pos c]
        exact Or.inr ⟨x, rfl, (e x).mpr (Or.inl h2), fun q hq => ((e q).mp hq).elim (h3 q) (fun z => by omega)⟩
      · rw [if_neg c]
        exact Or.inr ⟨i, rfl, (e i).mpr (Or.inr rfl), fun q hq => ((e q).mp hq).elim (fun z => by have := h3 q z; omega) (fun z => by omega)⟩
  · intro q
    rw [if_neg q] at h ⊢
    rcases h with ⟨h, -⟩ | ⟨x, h1, h2, h3⟩
    · omega
    · have : x = p := by omega
      subst this
      by_cases c : i ≤ x
      · rw [if_pos c]
        exact Or.inr ⟨x, rfl, (e x).mpr (Or.inl h2), fun q hq => ((e q).mp hq).elim (h3 q) (fun z => by omega)⟩
      · rw [if_neg c]
        exact Or.inr ⟨i, rfl, (e i).mpr (Or.inr rfl), fun q hq => ((e q).mp hq).elim (fun z => by have := h3 q z; omega) (fun z => by omega)⟩
/-- where a guest comes -/
def fdF (R : Nat → Nat) (g : Nat) (c k i : Nat) : Prop := ¬ begP R g c ∧ Bs (R g) k ∧ i = cnt c
end Spn0
section Spn1
variable {s : St}
theorem fd_iff {g i c : Nat} (h9 : sm s ≤ 9) (hc : 2 ^ sm s - 1 ≤ c) : dnA (sm s) (mayO s) (fdF (rwM (Ms s) (sG s)) g) c 0 i ↔ frP (sm s) (mayO s) (so s) g i := by
  constructor
  · rintro ⟨c', k', -, ⟨o, ho, j, hj, q1, q2⟩, h1, h2, h3⟩
    have ec := cnt_ct h9 ho (i := j) (by omega)
    rw [q1] at ec
    have e : i = j := by omega
    subst e
    rw [← q2] at h2
    rw [← q1] at h1
    refine ⟨o, ho, hj, (rwM_bit.mp h2).2, fun x hx hb => h1 ⟨o x, rwM_bit.mpr ⟨(ho x (by omega)).1, hb⟩, ctO_bit.mpr ⟨x, hx, rfl⟩⟩⟩
  · rintro ⟨o, ho, hi, hb, hn⟩
    refine ⟨ctO o i, o i, Or.inl ?_, ⟨o, ho, i, hi, rfl, rfl⟩, ?_, rwM_bit.mpr ⟨(ho i hi).1, hb⟩, (cnt_ct h9 ho (by omega)).symm⟩
    · have h1 := (ho.cut i (by omega))
      have : ctO o i ≠ 2 ^ sm s - 1 := fun e => by
        have := h1.2; rw [e, mis_full] at this; omega
      omega
    · rintro ⟨j, h1, h2⟩
      obtain ⟨x, hx, e⟩ := ctO_bit.mp h2
      subst e
      exact hn x hx (rwM_bit.mp h1).2
end Spn1
