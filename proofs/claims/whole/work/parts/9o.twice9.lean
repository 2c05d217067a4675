/-! twice and kind, by the reference -/
section TwD
variable {s : St} {g n a : Nat}
/-- how many, below i, have met g -/
noncomputable def metN (s : St) (g i : Nat) : Nat := gSz (fun v => Eo (Ms s) g v) i
/-- what is given to i, by the number a -/
noncomputable def dgN (s : St) (g a i : Nat) : Nat := a / 3 ^ metN s g i % 3
theorem metN_y {i : Nat} (h : Eo (Ms s) g i) : metN s g (i + 1) = metN s g i + 1 := by
  unfold metN
  simp only [gSz]
  rw [if_pos h]
theorem metN_n {i : Nat} (h : ¬ Eo (Ms s) g i) : metN s g (i + 1) = metN s g i := by
  unfold metN
  simp only [gSz]
  rw [if_neg h]; rfl
theorem metN_le (i : Nat) : metN s g i ≤ i := gSz_bd
/-- each gift has its number -/
theorem dg_ex {D : Nat → Nat} (hD : ∀ a, D a ≤ 2) : ∀ i, ∃ a, a < 3 ^ metN s g i ∧ ∀ j, j < i → Eo (Ms s) g j → dgN s g a j = D j := by
  intro i
  induction i with
  | zero => exact ⟨0, Nat.pow_pos (by omega), fun j hj => by omega⟩
  | succ i ih =>
    obtain ⟨a, h1, h2⟩ := ih
    by_cases q : Eo (Ms s) g i
    · have hd := hD i
      refine ⟨a + D i * 3 ^ metN s g i, ?_, fun j hj ej => ?_⟩
      · rw [metN_y q, Nat.pow_succ]
        have : D i * 3 ^ metN s g i ≤ 2 * 3 ^ metN s g i := Nat.mul_le_mul_right _ hd
        omega
      · have p0 : 0 < 3 ^ metN s g j := Nat.pow_pos (by omega)
        by_cases e : j = i
        · subst e
          unfold dgN
          rw [Nat.add_mul_div_right _ _ p0, Nat.div_eq_of_lt h1, Nat.zero_add, Nat.mod_eq_of_lt (by omega)]
        · rw [← h2 j (by omega) ej]
          have hlt : metN s g j + 1 ≤ metN s g i := by
            rw [← metN_y ej]
            exact gSz_mn (by omega)
          unfold dgN
          obtain ⟨k, hk⟩ : ∃ k, metN s g i = metN s g j + (k + 1) := ⟨metN s g i - metN s g j - 1, by omega⟩
          have e3 : D i * 3 ^ metN s g i = (D i * 3 ^ k * 3) * 3 ^ metN s g j := by
            rw [hk, Nat.pow_add, Nat.pow_succ]
            simp only [Nat.mul_comm, Nat.mul_left_comm, Nat.mul_assoc]
          rw [e3, Nat.add_mul_div_right _ _ p0, Nat.add_mul_mod_self_right]
    · refine ⟨a, by rw [metN_n q]; exact h1, fun j hj ej => h2 j ?_ ej⟩
      have : j ≠ i := fun e => q (e ▸ ej)
      omega
/-- rows, with what was given to the first i -/
def tiP (s : St) (g n : Nat) (D : Nat → Nat) (i : Nat) (M : Nat → Nat) : Prop := (∀ x y, x ≠ g → x ≠ n → y ≠ g → y ≠ n → (Eo M x y ↔ Eo (Ms s) x y)) ∧ (∀ y, Eo M g y ↔ y < i ∧ Eo (Ms s) g y ∧ D y ≠ 1) ∧ (∀ y, Eo M n y ↔ y < i ∧ Eo (Ms s) g y ∧ D y ≠ 0) ∧ (∀ y, y ≠ g → y ≠ n → (y < i ∨ ¬ Eo (Ms s) g y) → (Eo M y g ↔ Eo (Ms s) g y ∧ D y ≠ 1) ∧ (Eo M y n ↔ Eo (Ms s) g y ∧ D y ≠ 0)) ∧ ∀ y, M y < 1024
/-- .. and what holds always -/
def tjP (s : St) (g n : Nat) (M : Nat → Nat) : Prop := (∀ x y, x ≠ g → x ≠ n → y ≠ g → y ≠ n → (Eo M x y ↔ Eo (Ms s) x y)) ∧ (∀ y, y ≠ g → y ≠ n → ¬ Eo (Ms s) g y → ¬ Eo M y g ∧ ¬ Eo M y n) ∧ ∀ y, M y < 1024
theorem tj_of {D : Nat → Nat} {i : Nat} {M : Nat → Nat} (h : tiP s g n D i M) : tjP s g n M := ⟨h.1, fun y h1 h2 h3 => ⟨fun e => h3 (((h.2.2.2.1 y h1 h2 (Or.inr h3)).1.mp e).1), fun e => h3 (((h.2.2.2.1 y h1 h2 (Or.inr h3)).2.mp e).1)⟩, h.2.2.2.2⟩
/-- rows with both comings' cleared -/
def zeT (M : Nat → Nat) (g n : Nat) (y : Nat) : Nat := if y = n then 0 else if y = g then 0 else M y
theorem zeT_o {M : Nat → Nat} {y : Nat} (h1 : y ≠ g) (h2 : y ≠ n) : zeT M g n y = M y := by unfold zeT; rw [if_neg h2, if_neg h1]
theorem zeT_g {M : Nat → Nat} : zeT M g n g = 0 := by
  unfold zeT
  split
  · rfl
  · rw [if_pos rfl]
theorem zeT_n {M : Nat → Nat} : zeT M g n n = 0 := if_pos rfl
theorem ti_0 {D : Nat → Nat} {M : Nat → Nat} (h : tjP s g n M) : tiP s g n D 0 (zeT M g n) := by
  have z : ∀ y, ¬ (0 : Nat).testBit y = true := fun y => by simp
  refine ⟨fun x y h1 h2 h3 h4 => ?_, fun y => ⟨fun e => ?_, fun e => by omega⟩, fun y => ⟨fun e => ?_, fun e => by omega⟩, fun y h1 h2 h3 => ?_, fun y => ?_⟩
  · unfold Eo
    rw [zeT_o h1 h2]; exact h.1 x y h1 h2 h3 h4
  · unfold Eo at e
    rw [zeT_g] at e; exact absurd e (z y)
  · unfold Eo at e
    rw [zeT_n] at e; exact absurd e (z y)
  · have h3 : ¬ Eo (Ms s) g y := h3.elim (fun q => by omega) id
    obtain ⟨q1, q2⟩ := h.2.1 y h1 h2 h3
    have e1 : ∀ c, Eo (zeT M g n) y c ↔ Eo M y c := fun c => by
      unfold Eo
      rw [zeT_o h1 h2]
    rw [e1, e1]
    exact ⟨⟨fun e => absurd e q1, fun e => absurd e.1 h3⟩, ⟨fun e => absurd e q2, fun e => absurd e.1 h3⟩⟩
  · unfold zeT
    split
    · omega
    · split
      · omega
      · exact h.2.2 y
theorem ti_skip {D : Nat → Nat} {i : Nat} {M : Nat → Nat} (h : tiP s g n D i M) (hi : ¬ Eo (Ms s) g i) : tiP s g n D (i + 1) M := by
  have e : ∀ y, (y < i ∧ Eo (Ms s) g y) ↔ (y < i + 1 ∧ Eo (Ms s) g y) := fun y => ⟨fun q => ⟨by omega, q.2⟩, fun q => ⟨by have : y ≠ i := fun e => hi (e ▸ q.2); omega, q.2⟩⟩
  refine ⟨h.1, fun y => ?_, fun y => ?_, fun y h1 h2 h3 => h.2.2.2.1 y h1 h2 ?_, h.2.2.2.2⟩
  · rw [h.2.1 y, ← and_assoc, ← and_assoc, e y]
  · rw [h.2.2.1 y, ← and_assoc, ← and_assoc, e y]
  · by_cases q : Eo (Ms s) g y
    · exact Or.inl (by have := (e y).mpr ⟨h3.elim id (fun z => absurd q z), q⟩; omega)
    · exact Or.inr q
/-- the row of one, without both comings -/
def rmT (M : Nat → Nat) (g n i : Nat) : Nat → Nat := fun y => if y = i then nAn (nAn (M i) (2 ^ g)) (2 ^ n) else M y
theorem rmT_eo {M : Nat → Nat} {i x y : Nat} : Eo (rmT M g n i) x y ↔ Eo M x y ∧ ¬ (x = i ∧ (y = g ∨ y = n)) := by
  unfold Eo rmT
  by_cases e : x = i
  · subst e
    rw [if_pos rfl, nAn_bit, nAn_bit, Nat.testBit_two_pow, Nat.testBit_two_pow]
    simp only [Bool.and_eq_true, Bool.not_eq_true', decide_eq_false_iff_not]
    exact ⟨fun q => ⟨q.1.1, fun z => z.2.elim (fun e => q.1.2 e.symm) (fun e => q.2 e.symm)⟩, fun q => ⟨⟨q.1, fun e => q.2 ⟨trivial, Or.inl e.symm⟩⟩, fun e => q.2 ⟨trivial, Or.inr e.symm⟩⟩⟩
  · rw [if_neg e]
    exact ⟨fun q => ⟨q, fun z => e z.1⟩, fun q => q.1⟩
theorem rmT_lt {M : Nat → Nat} {i : Nat} (h : ∀ y, M y < 1024) (y : Nat) : rmT M g n i y < 1024 := by
  unfold rmT
  split
  · exact Nat.lt_of_le_of_lt (nAn_le _ _) (Nat.lt_of_le_of_lt (nAn_le _ _) (h i))
  · exact h y
theorem ti_put {D : Nat → Nat} {i : Nat} {M M' : Nat → Nat} (h : tiP s g n D i M) (hi : Eo (Ms s) g i) (ig : i ≠ g) (inn : i ≠ n) (gn : g ≠ n) (h1 : ∀ x y, Eo M' x y ↔ (Eo M x y ∧ ¬ (x = i ∧ (y = g ∨ y = n))) ∨ (D i ≠ 1 ∧ ((x = g ∧ y = i) ∨ (x = i ∧ y = g))) ∨ (D i ≠ 0 ∧ ((x = n ∧ y = i) ∨ (x = i ∧ y = n)))) (lt : ∀ y, M' y < 1024) : tiP s g n D (i + 1) M' := by
  obtain ⟨a1, a2, a3, a4, a5⟩ := h
  refine ⟨fun x y q1 q2 q3 q4 => ?_, fun y => ?_, fun y => ?_, fun y q1 q2 q3 => ?_, lt⟩
  · rw [h1, ← a1 x y q1 q2 q3 q4]
    exact ⟨fun z => z.elim (fun z => z.1) (fun z => z.elim (fun z => by omega) (fun z => by omega)), fun z => Or.inl ⟨z, by omega⟩⟩
  · rw [h1, a2]
    constructor
    · rintro (q | q | q)
      · exact ⟨by omega, q.1.2⟩
      · have e : y = i := by omega
        subst e; exact ⟨by omega, hi, q.1⟩
      · omega
    · rintro ⟨q1, q2, q3⟩
      by_cases e : y = i
      · subst e; exact Or.inr (Or.inl ⟨q3, Or.inl ⟨rfl, rfl⟩⟩)
      · exact Or.inl ⟨⟨by omega, q2, q3⟩, by omega⟩
  · rw [h1, a3]
    constructor
    · rintro (q | q | q)
      · exact ⟨by omega, q.1.2⟩
      · omega
      · have e : y = i := by omega
        subst e; exact ⟨by omega, hi, q.1⟩
    · rintro ⟨q1, q2, q3⟩
      by_cases e : y = i
      · subst e; exact Or.inr (Or.inr ⟨q3, Or.inl ⟨rfl, rfl⟩⟩)
      · exact Or.inl ⟨⟨by omega, q2, q3⟩, by omega⟩
  · rw [h1, h1]
    by_cases e : y = i
    · subst e
      refine ⟨⟨fun z => ?_, fun z => Or.inr (Or.inl ⟨z.2, Or.inr ⟨rfl, rfl⟩⟩)⟩, ⟨fun z => ?_, fun z => Or.inr (Or.inr ⟨z.2, Or.inr ⟨rfl, rfl⟩⟩)⟩⟩
      · rcases z with z | z | z
        · exact absurd ⟨rfl, Or.inl rfl⟩ z.2
        · exact ⟨hi, z.1⟩
        · omega
      · rcases z with z | z | z
        · exact absurd ⟨rfl, Or.inr rfl⟩ z.2
        · omega
        · exact ⟨hi, z.1⟩
    · obtain ⟨b1, b2⟩ := a4 y q1 q2 (q3.elim (fun z => Or.inl (by omega)) Or.inr)
      rw [← b1, ← b2]
      exact ⟨⟨fun z => z.elim (fun z => z.1) (fun z => by omega), fun z => Or.inl ⟨z, by omega⟩⟩, ⟨fun z => z.elim (fun z => z.1) (fun z => by omega), fun z => Or.inl ⟨z, by omega⟩⟩⟩
/-- at the end the rows are those of the two comings -/
theorem ti_end {D : Nat → Nat} {M : Nat → Nat} (si : SI s) (hg : g < sG s) (h : tiP s g (sG s) D (sG s) M) (x y : Nat) : Eo M x y ↔ tE (Eo (Ms s)) g (sG s) D x y := by
  obtain ⟨a1, a2, a3, a4, a5⟩ := h
  have gn : g ≠ sG s := by omega
  have gn' : ¬ sG s = g := by omega
  have bd := fun i j => Ms_bd (s := s) i j
  have ir := Ms_irr si
  have nn : ∀ y, Eo (Ms s) g y → y < sG s := fun y e => (bd g y e).2
  have nG : ¬ Eo (Ms s) g (sG s) := fun e => by have := nn _ e; omega
  unfold tE
  by_cases x1 : x = g
  · subst x1
    rw [a2]
    by_cases y1 : y = x
    · subst y1; have := ir y; simp_all
    · by_cases y2 : y = sG s
      · subst y2; simp_all
      · have := nn y
        simp_all
  · by_cases x2 : x = sG s
    · subst x2
      rw [a3]
      by_cases y1 : y = g
      · subst y1; have := ir y; simp_all
      · by_cases y2 : y = sG s
        · subst y2; simp_all
        · have := nn y
          simp_all
    · have h3 : x < sG s ∨ ¬ Eo (Ms s) g x := by
        by_cases e : Eo (Ms s) g x
        · exact Or.inl (nn x e)
        · exact Or.inr e
      obtain ⟨b1, b2⟩ := a4 x x1 x2 h3
      by_cases y1 : y = g
      · subst y1; rw [b1]; simp_all
      · by_cases y2 : y = sG s
        · subst y2; rw [b2]; simp_all
        · rw [a1 x y x1 x2 y1 y2]; simp_all
theorem tE_gm {D : Nat → Nat} {M : Nat → Nat} (si : SI s) (hg : g < sG s) (h : ∀ x y, Eo M x y ↔ tE (Eo (Ms s)) g (sG s) D x y) : GM 10 M := by
  have g9 := si.1
  have bd := fun i j => Ms_bd (s := s) i j
  have ir := Ms_irr si
  have sy := Ms_sym si
  intro x y e
  have e := (h x y).mp e
  refine ⟨?_, ?_, ?_, (h y x).mpr ?_⟩
  · unfold tE at e
    rcases e with e | e | e | e | e
    · have := bd x y e.2.2.2.2; omega
    · omega
    · have := bd g x e.2.2.2.1; omega
    · omega
    · have := bd g x e.2.2.2.1; omega
  · unfold tE at e
    rcases e with e | e | e | e | e
    · have := bd x y e.2.2.2.2; omega
    · have := bd g y e.2.2.2.1; omega
    · omega
    · have := bd g y e.2.2.2.1; omega
    · omega
  · intro q
    subst q
    unfold tE at e
    rcases e with e | e | e | e | e
    · exact ir x e.2.2.2.2
    · exact e.2.1 e.1
    · exact e.2.1 e.1
    · exact e.2.2.1 e.1
    · exact e.2.2.1 e.1
  · unfold tE at e ⊢
    rcases e with e | e | e | e | e
    · exact Or.inl ⟨e.2.2.1, e.2.2.2.1, e.1, e.2.1, sy _ _ e.2.2.2.2⟩
    · exact Or.inr (Or.inr (Or.inl e))
    · exact Or.inr (Or.inl e)
    · exact Or.inr (Or.inr (Or.inr (Or.inr e)))
    · exact Or.inr (Or.inr (Or.inr (Or.inl e)))
end TwD
