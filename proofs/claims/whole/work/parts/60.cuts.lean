/-! orders of moments as ways through cuts (a cut: the set of those ahead) -/
def sumN (f : Nat → Nat) : Nat → Nat
  | 0 => 0
  | n + 1 => sumN f n + f n
theorem sumN_eq {f g : Nat → Nat} : ∀ {n : Nat}, (∀ k, k < n → f k = g k) → sumN f n = sumN g n
  | 0, _ => rfl
  | n + 1, h => by
    simp only [sumN]
    rw [sumN_eq (n := n) (fun k hk => h k (by omega)), h n (by omega)]
theorem sumN_le {f g : Nat → Nat} : ∀ {n : Nat}, (∀ k, k < n → f k ≤ g k) → sumN f n ≤ sumN g n
  | 0, _ => Nat.le_refl _
  | n + 1, h => Nat.add_le_add (sumN_le (n := n) (fun k hk => h k (by omega))) (h n (by omega))
theorem sumN_eqs {f g : Nat → Nat} : ∀ {n : Nat}, (∀ k, k < n → f k ≤ g k) → sumN f n = sumN g n → ∀ k, k < n → f k = g k
  | 0, _, _, k, hk => by omega
  | n + 1, h, e, k, hk => by
    simp only [sumN] at e
    have h1 := sumN_le (n := n) (fun k hk => h k (by omega))
    have h2 := h n (by omega)
    by_cases q : k = n
    · subst q; omega
    · exact sumN_eqs (n := n) (fun k hk => h k (by omega)) (by omega) k (by omega)
theorem sumN_one {f : Nat → Nat} : ∀ {n k : Nat}, k < n → f k ≤ sumN f n
  | 0, k, h => by omega
  | n + 1, k, h => by
    simp only [sumN]
    by_cases q : k = n
    · subst q; omega
    · have := sumN_one (f := f) (n := n) (k := k) (by omega); omega
theorem sumN_pos {f : Nat → Nat} : ∀ {n : Nat}, 0 < sumN f n → ∃ k, k < n ∧ 0 < f k
  | 0, h => by simp [sumN] at h
  | n + 1, h => by
    simp only [sumN] at h
    by_cases q : 0 < f n
    · exact ⟨n, by omega, q⟩
    · obtain ⟨k, h1, h2⟩ := sumN_pos (f := f) (n := n) (by omega)
      exact ⟨k, by omega, h2⟩
theorem sumN_bd {f : Nat → Nat} {B : Nat} : ∀ {n : Nat}, (∀ k, k < n → f k ≤ B) → sumN f n ≤ n * B
  | 0, _ => by simp [sumN]
  | n + 1, h => by
    simp only [sumN]
    have h1 := sumN_bd (n := n) (fun k hk => h k (by omega))
    have h2 := h n (by omega)
    rw [Nat.succ_mul]; omega
theorem sumN_mono {f : Nat → Nat} : ∀ {n k : Nat}, k ≤ n → sumN f k ≤ sumN f n
  | 0, k, h => by rw [Nat.le_zero.mp h]; exact Nat.le_refl _
  | n + 1, k, h => by
    by_cases q : k = n + 1
    · rw [q]; exact Nat.le_refl _
    · have := sumN_mono (f := f) (n := n) (k := k) (by omega)
      simp only [sumN]; omega
/-! bits of a cut -/
theorem or_bit (c k i : Nat) : (c ||| 2 ^ k).testBit i = (c.testBit i || decide (k = i)) := by
  rw [Nat.testBit_or, Nat.testBit_two_pow]
theorem or_bitT {c k i : Nat} : (c ||| 2 ^ k).testBit i = true ↔ c.testBit i = true ∨ k = i := by
  rw [or_bit, Bool.or_eq_true, decide_eq_true_eq]
theorem or_bitF {c k i : Nat} : (c ||| 2 ^ k).testBit i = false ↔ c.testBit i = false ∧ k ≠ i := by
  rw [or_bit, Bool.or_eq_false_iff, decide_eq_false_iff_not]
theorem or_lt {m c k : Nat} (hc : c < 2 ^ m) (hk : k < m) : c ||| 2 ^ k < 2 ^ m := Nat.or_lt_two_pow hc (Nat.pow_lt_pow_right (by omega) hk)
theorem full_bit (m i : Nat) : (2 ^ m - 1).testBit i = decide (i < m) := Nat.testBit_two_pow_sub_one m i
theorem full_lt (m : Nat) : 2 ^ m - 1 < 2 ^ m := by have := Nat.two_pow_pos m; omega
theorem cut_full {m c : Nat} (hc : c < 2 ^ m) (h : ∀ i, i < m → c.testBit i = true) : c = 2 ^ m - 1 := by
  apply Nat.eq_of_testBit_eq
  intro i
  rw [full_bit]
  by_cases q : i < m
  · rw [h i q]; simp [q]
  · rw [Nat.testBit_lt_two_pow (Nat.lt_of_lt_of_le hc (Nat.pow_le_pow_right (by omega) (by omega : m ≤ i)))]; simp [q]
theorem cut_miss {m c : Nat} (hc : c < 2 ^ m) (h : c ≠ 2 ^ m - 1) : ∃ i, i < m ∧ c.testBit i = false :=
  Classical.byContradiction fun q => h (cut_full hc (fun i hi => by
    cases hb : c.testBit i
    · exact absurd ⟨i, hi, hb⟩ q
    · rfl))
def bn (c k : Nat) : Nat := if c.testBit k then 0 else 1
def mis (m c : Nat) : Nat := sumN (bn c) m
theorem bn_ne {c k i : Nat} (h : k ≠ i) : bn (c ||| 2 ^ k) i = bn c i := by
  unfold bn; rw [or_bit]; simp [h]
theorem bn_same {c k : Nat} : bn (c ||| 2 ^ k) k = 0 := by
  unfold bn; rw [or_bit]; simp
theorem bn_no {c k : Nat} (h : c.testBit k = false) : bn c k = 1 := by
  unfold bn; rw [h]; rfl
theorem mis_or {c k : Nat} (h : c.testBit k = false) : ∀ {m : Nat}, k < m → mis m (c ||| 2 ^ k) + 1 = mis m c
  | 0, hk => by omega
  | m + 1, hk => by
    unfold mis
    simp only [sumN]
    by_cases q : k = m
    · subst q
      rw [sumN_eq (f := bn (c ||| 2 ^ k)) (g := bn c) (fun i hi => bn_ne (by omega)), bn_same, bn_no h]
    · have ih := mis_or h (m := m) (by omega)
      unfold mis at ih
      rw [bn_ne q]; omega
theorem mis_z {m c : Nat} (hc : c < 2 ^ m) (h : mis m c = 0) : c = 2 ^ m - 1 :=
  cut_full hc (fun i hi => by
    have := sumN_one (f := bn c) hi
    unfold mis at h
    cases hb : c.testBit i
    · rw [bn_no hb] at this; omega
    · rfl)
theorem mis_full (m : Nat) : mis m (2 ^ m - 1) = 0 := by
  unfold mis
  have h : ∀ n, n ≤ m → sumN (bn (2 ^ m - 1)) n = 0 := by
    intro n
    induction n with
    | zero => intro _; rfl
    | succ n ih =>
      intro hn
      simp only [sumN]
      rw [ih (by omega)]
      unfold bn
      rw [full_bit]; simp; omega
  exact h m (Nat.le_refl _)
theorem mis_le (m c : Nat) : mis m c ≤ m := by
  have := sumN_bd (f := bn c) (B := 1) (n := m) (fun k _ => by unfold bn; split <;> omega)
  unfold mis; omega
theorem mis_0 (m : Nat) : mis m 0 = m := by
  unfold mis
  induction m with
  | zero => rfl
  | succ n ih => simp only [sumN]; rw [ih, bn_no (Nat.zero_testBit n)]
theorem cut_ind {m : Nat} (P : Nat → Prop) (h : ∀ c, c < 2 ^ m → (∀ k, k < m → c.testBit k = false → P (c ||| 2 ^ k)) → P c) : ∀ c, c < 2 ^ m → P c := by
  have key : ∀ n c, c < 2 ^ m → mis m c ≤ n → P c := by
    intro n
    induction n with
    | zero =>
      intro c hc hn
      refine h c hc (fun k hk hb => ?_)
      have := mis_or hb hk; omega
    | succ n ih =>
      intro c hc hn
      refine h c hc (fun k hk hb => ih _ (or_lt hc hk) ?_)
      have := mis_or hb hk; omega
  exact fun c hc => key _ c hc (Nat.le_refl _)
/-! how many ways on from a cut -/
noncomputable def wyF (m : Nat) (may : Nat → Nat → Prop) : Nat → Nat → Nat
  | 0, c => if c = 2 ^ m - 1 then 1 else 0
  | n + 1, c => if c = 2 ^ m - 1 then 1 else sumN (fun k => @ite Nat (c.testBit k = false ∧ may c k) (Classical.propDecidable _) (wyF m may n (c ||| 2 ^ k)) 0) m
noncomputable def wy (m : Nat) (may : Nat → Nat → Prop) (c : Nat) : Nat := wyF m may m c
noncomputable def wyT (m : Nat) (may : Nat → Nat → Prop) (c k : Nat) : Nat := @ite Nat (c.testBit k = false ∧ may c k) (Classical.propDecidable _) (wy m may (c ||| 2 ^ k)) 0
section Cuts
variable {m : Nat} {may may' : Nat → Nat → Prop} {c k : Nat}
theorem wyF_st : ∀ n c, c < 2 ^ m → mis m c ≤ n → wyF m may n c = wyF m may (mis m c) c := by
  intro n
  induction n with
  | zero => intro c _ hn; rw [Nat.le_zero.mp hn]
  | succ n ih =>
    intro c hc hn
    by_cases hf : c = 2 ^ m - 1
    · have : mis m c = 0 := by rw [hf]; exact mis_full m
      rw [this]; simp only [wyF, hf, if_true]
    · obtain ⟨t, ht⟩ : ∃ t, mis m c = t + 1 := by
        cases q : mis m c with
        | zero => exact absurd (mis_z hc q) hf
        | succ t => exact ⟨t, rfl⟩
      rw [ht]
      simp only [wyF, hf, if_false]
      apply sumN_eq
      intro k hk
      by_cases hq : c.testBit k = false ∧ may c k
      · have e := mis_or hq.1 hk
        rw [if_pos hq, if_pos hq, ih _ (or_lt hc hk) (by omega)]
        rw [show mis m (c ||| 2 ^ k) = t by omega]
      · rw [if_neg hq, if_neg hq]
theorem wy_full : wy m may (2 ^ m - 1) = 1 := by
  unfold wy
  cases m with
  | zero => simp [wyF]
  | succ m => simp [wyF]
theorem wy_step (hc : c < 2 ^ m) (hf : c ≠ 2 ^ m - 1) : wy m may c = sumN (wyT m may c) m := by
  have h0 : wy m may c = wyF m may (mis m c) c := wyF_st m c hc (mis_le m c)
  obtain ⟨t, ht⟩ : ∃ t, mis m c = t + 1 := by
    cases q : mis m c with
    | zero => exact absurd (mis_z hc q) hf
    | succ t => exact ⟨t, rfl⟩
  rw [h0, ht]
  simp only [wyF, hf, if_false]
  apply sumN_eq
  intro k hk
  unfold wyT
  by_cases hq : c.testBit k = false ∧ may c k
  · have e := mis_or hq.1 hk
    rw [if_pos hq, if_pos hq]
    show _ = wyF m may m _
    rw [wyF_st m _ (or_lt hc hk) (mis_le _ _), show mis m (c ||| 2 ^ k) = t by omega]
  · rw [if_neg hq, if_neg hq]
theorem wyT_yes (h : c.testBit k = false) (h2 : may c k) : wyT m may c k = wy m may (c ||| 2 ^ k) := by
  unfold wyT; rw [if_pos ⟨h, h2⟩]
theorem wyT_no (h : ¬ (c.testBit k = false ∧ may c k)) : wyT m may c k = 0 := by
  unfold wyT; rw [if_neg h]
theorem wy_bd : ∀ c, c < 2 ^ m → wy m may c ≤ m ^ mis m c := by
  apply cut_ind
  intro c hc ih
  by_cases hf : c = 2 ^ m - 1
  · rw [hf, wy_full, mis_full]; exact Nat.le_refl _
  · rw [wy_step hc hf]
    obtain ⟨t, ht⟩ : ∃ t, mis m c = t + 1 := by
      cases q : mis m c with
      | zero => exact absurd (mis_z hc q) hf
      | succ t => exact ⟨t, rfl⟩
    rw [ht, Nat.pow_succ, Nat.mul_comm]
    refine sumN_bd (fun k hk => ?_)
    by_cases hq : c.testBit k = false ∧ may c k
    · rw [wyT_yes hq.1 hq.2]
      have e := mis_or hq.1 hk
      have := ih k hk hq.1
      rwa [show mis m (c ||| 2 ^ k) = t by omega] at this
    · rw [wyT_no hq]; exact Nat.zero_le _
theorem pow9 : ∀ m : Fin 10, ∀ k : Fin 10, m.val ^ k.val ≤ 387420489 := by decide +kernel
theorem wy_bd9 (hm : m ≤ 9) (hc : c < 2 ^ m) : wy m may c ≤ 387420489 := by
  have h := wy_bd (may := may) c hc
  have h1 := mis_le m c
  exact Nat.le_trans h (pow9 ⟨m, by omega⟩ ⟨mis m c, by omega⟩)
theorem wy_pos (hc : c < 2 ^ m) (hf : c ≠ 2 ^ m - 1) (h : 0 < wy m may c) : ∃ k, k < m ∧ c.testBit k = false ∧ may c k ∧ 0 < wy m may (c ||| 2 ^ k) := by
  rw [wy_step hc hf] at h
  obtain ⟨k, hk, h⟩ := sumN_pos h
  by_cases hq : c.testBit k = false ∧ may c k
  · rw [wyT_yes hq.1 hq.2] at h
    exact ⟨k, hk, hq.1, hq.2, h⟩
  · rw [wyT_no hq] at h; omega
theorem wy_pos_of (hc : c < 2 ^ m) (hk : k < m) (hb : c.testBit k = false) (hy : may c k) (h : 0 < wy m may (c ||| 2 ^ k)) : 0 < wy m may c := by
  have hf : c ≠ 2 ^ m - 1 := fun e => by rw [e, full_bit] at hb; simp [hk] at hb
  rw [wy_step hc hf]
  have := sumN_one (f := wyT m may c) hk
  rw [wyT_yes hb hy] at this
  omega
theorem wy_mono (hle : ∀ c k, c < 2 ^ m → k < m → may' c k → may c k) : ∀ c, c < 2 ^ m → wy m may' c ≤ wy m may c := by
  apply cut_ind
  intro c hc ih
  by_cases hf : c = 2 ^ m - 1
  · rw [hf, wy_full, wy_full]; exact Nat.le_refl _
  · rw [wy_step hc hf, wy_step hc hf]
    refine sumN_le (fun k hk => ?_)
    by_cases hq : c.testBit k = false ∧ may' c k
    · rw [wyT_yes hq.1 hq.2, wyT_yes hq.1 (hle c k hc hk hq.2)]
      exact ih k hk hq.1
    · rw [wyT_no hq]; exact Nat.zero_le _
theorem wy_cong (he : ∀ c k, c < 2 ^ m → k < m → c.testBit k = false → (may' c k ↔ may c k)) : ∀ c, c < 2 ^ m → wy m may' c = wy m may c := by
  apply cut_ind
  intro c hc ih
  by_cases hf : c = 2 ^ m - 1
  · rw [hf, wy_full, wy_full]
  · rw [wy_step hc hf, wy_step hc hf]
    refine sumN_eq (fun k hk => ?_)
    by_cases hq : c.testBit k = false ∧ may' c k
    · rw [wyT_yes hq.1 hq.2, wyT_yes hq.1 ((he c k hc hk hq.1).mp hq.2)]
      exact ih k hk hq.1
    · rw [wyT_no hq, wyT_no (fun q => hq ⟨q.1, (he c k hc hk q.1).mpr q.2⟩)]
/-! cuts that are reached -/
def rcP (m : Nat) (may : Nat → Nat → Prop) (c : Nat) : Prop := ∀ T : Nat → Prop, T 0 → (∀ d k, T d → d < 2 ^ m → k < m → d.testBit k = false → may d k → T (d ||| 2 ^ k)) → T c
theorem rcP.zero : rcP m may 0 := fun _ h _ => h
theorem rcP.step (h : rcP m may c) (hc : c < 2 ^ m) (hk : k < m) (hb : c.testBit k = false) (hy : may c k) : rcP m may (c ||| 2 ^ k) := fun T h0 hs => hs c k (h T h0 hs) hc hk hb hy
theorem rcP.lt (h : rcP m may c) : c < 2 ^ m := h (fun c => c < 2 ^ m) (Nat.two_pow_pos m) (fun _ _ _ hd hk _ _ => or_lt hd hk)
/-- an order of all: the cut ahead of place i -/
def ctO (o : Nat → Nat) : Nat → Nat
  | 0 => 0
  | n + 1 => ctO o n ||| 2 ^ o n
theorem ctO_bit {o : Nat → Nat} {k : Nat} : ∀ {n : Nat}, (ctO o n).testBit k = true ↔ ∃ i, i < n ∧ o i = k
  | 0 => by simp [ctO]
  | n + 1 => by
    simp only [ctO]
    rw [or_bitT, ctO_bit (n := n)]
    constructor
    · rintro (⟨i, h, e⟩ | e)
      · exact ⟨i, by omega, e⟩
      · exact ⟨n, by omega, e⟩
    · rintro ⟨i, h, e⟩
      by_cases q : i = n
      · exact Or.inr (q ▸ e)
      · exact Or.inl ⟨i, by omega, e⟩
theorem ctO_eq {o o' : Nat → Nat} : ∀ {n : Nat}, (∀ i, i < n → o' i = o i) → ctO o' n = ctO o n
  | 0, _ => rfl
  | n + 1, h => by
    simp only [ctO]
    rw [ctO_eq (n := n) (fun i hi => h i (by omega)), h n (by omega)]
/-- the first n places of an order -/
def LyN (m : Nat) (may : Nat → Nat → Prop) (n : Nat) (o : Nat → Nat) : Prop := ∀ i, i < n → o i < m ∧ (ctO o i).testBit (o i) = false ∧ may (ctO o i) (o i)
theorem LyN.cut {n : Nat} {o : Nat → Nat} (h : LyN m may n o) : ∀ i, i ≤ n → ctO o i < 2 ^ m ∧ mis m (ctO o i) + i = m := by
  intro i
  induction i with
  | zero => intro _; exact ⟨Nat.two_pow_pos m, by rw [show ctO o 0 = 0 from rfl, mis_0]; rfl⟩
  | succ i ih =>
    intro hi
    obtain ⟨h1, h2⟩ := ih (by omega)
    obtain ⟨h3, h4, -⟩ := h i (by omega)
    simp only [ctO]
    refine ⟨or_lt h1 h3, ?_⟩
    have := mis_or h4 h3
    omega
theorem LyN.le {n : Nat} {o : Nat → Nat} (h : LyN m may n o) : n ≤ m := by
  have := (h.cut n (Nat.le_refl _)).2; omega
theorem LyN.inj {n : Nat} {o : Nat → Nat} (h : LyN m may n o) {i j : Nat} (hi : i < n) (hj : j < n) (e : o i = o j) : i = j := by
  rcases Nat.lt_trichotomy i j with q | q | q
  · have h1 := (h j hj).2.1
    rw [ctO_bit.mpr ⟨i, q, e⟩] at h1; cases h1
  · exact q
  · have h1 := (h i hi).2.1
    rw [ctO_bit.mpr ⟨j, q, e.symm⟩] at h1; cases h1
theorem LyN.full {o : Nat → Nat} (h : LyN m may m o) : ctO o m = 2 ^ m - 1 := by
  obtain ⟨h1, h2⟩ := h.cut m (Nat.le_refl _)
  exact mis_z h1 (by omega)
theorem LyN.onto {o : Nat → Nat} (h : LyN m may m o) {k : Nat} (hk : k < m) : ∃ i, i < m ∧ o i = k := by
  apply ctO_bit.mp
  rw [h.full, full_bit]; exact decide_eq_true hk
theorem LyN.less {n : Nat} {o : Nat → Nat} (h : LyN m may n o) {i : Nat} (hi : i ≤ n) : LyN m may i o := fun j hj => h j (by omega)
theorem LyN.rc {n : Nat} {o : Nat → Nat} (h : LyN m may n o) : rcP m may (ctO o n) := by
  induction n with
  | zero => exact rcP.zero
  | succ n ih =>
    have h1 := ih (h.less (by omega))
    obtain ⟨h3, h4, h5⟩ := h n (by omega)
    exact h1.step h1.lt h3 h4 h5
theorem rcP.ly (h : rcP m may c) : ∃ n o, LyN m may n o ∧ ctO o n = c := by
  refine h (fun c => ∃ n o, LyN m may n o ∧ ctO o n = c) ⟨0, fun _ => 0, fun i hi => by omega, rfl⟩ ?_
  rintro d k ⟨n, o, h1, rfl⟩ hd hk hb hy
  have e0 : ∀ i, i < n → (fun i => if i = n then k else o i) i = o i := fun i hi => if_neg (by omega)
  refine ⟨n + 1, fun i => if i = n then k else o i, fun i hi => ?_, ?_⟩
  · by_cases q : i = n
    · subst q
      rw [ctO_eq e0]
      simp only [if_true]
      exact ⟨hk, hb, hy⟩
    · rw [ctO_eq (fun j hj => e0 j (by omega)), e0 i (by omega)]
      exact h1 i (by omega)
  · simp only [ctO]
    rw [ctO_eq e0]
    simp only [if_true]
/-- a way that can go on, goes on to the end -/
theorem LyN.on : ∀ (t n : Nat) (o : Nat → Nat), LyN m may n o → m - n = t → 0 < wy m may (ctO o n) → ∃ o', (∀ i, i < n → o' i = o i) ∧ LyN m may m o' := by
  intro t
  induction t with
  | zero =>
    intro n o h hn _
    have := h.le
    have e : n = m := by omega
    subst e
    exact ⟨o, fun _ _ => rfl, h⟩
  | succ t ih =>
    intro n o h hn hp
    obtain ⟨h1, h2⟩ := h.cut n (Nat.le_refl _)
    have hf : ctO o n ≠ 2 ^ m - 1 := fun e => by rw [e, mis_full] at h2; omega
    obtain ⟨k, hk, hb, hy, hw⟩ := wy_pos h1 hf hp
    have e0 : ∀ i, i < n → (fun i => if i = n then k else o i) i = o i := fun i hi => if_neg (by omega)
    obtain ⟨o', q1, q2⟩ := ih (n + 1) (fun i => if i = n then k else o i) (fun i hi => by
      by_cases q : i = n
      · subst q
        rw [ctO_eq e0]
        simp only [if_true]
        exact ⟨hk, hb, hy⟩
      · rw [ctO_eq (fun j hj => e0 j (by omega)), e0 i (by omega)]
        exact h i (by omega)) (by omega) (by
      simp only [ctO]
      rw [ctO_eq e0]
      simp only [if_true]
      exact hw)
    exact ⟨o', fun i hi => by rw [q1 i (by omega)]; exact e0 i hi, q2⟩
/-- .. and where one ends, there is a way on all along -/
theorem LyN.pos {o : Nat → Nat} (h : LyN m may m o) : ∀ t i, m - i = t → i ≤ m → 0 < wy m may (ctO o i) := by
  intro t
  induction t with
  | zero =>
    intro i ht hi
    have e : i = m := by omega
    rw [e, h.full, wy_full]; omega
  | succ t ih =>
    intro i ht hi
    obtain ⟨h3, h4, h5⟩ := h i (by omega)
    exact wy_pos_of (h.cut i hi).1 h3 h4 h5 (ih (i + 1) (by omega) (by omega))
/-- a cut that stands in an order -/
theorem live_c (hr : rcP m may c) (hw : 0 < wy m may c) : ∃ o, LyN m may m o ∧ ∃ i, i ≤ m ∧ ctO o i = c := by
  obtain ⟨n, o, h1, rfl⟩ := hr.ly
  obtain ⟨o', q1, q2⟩ := LyN.on _ n o h1 rfl hw
  exact ⟨o', q2, n, h1.le, ctO_eq q1⟩
theorem live_of {o : Nat → Nat} (h : LyN m may m o) {i : Nat} (hi : i ≤ m) : rcP m may (ctO o i) ∧ 0 < wy m may (ctO o i) := ⟨(h.less hi).rc, h.pos _ i rfl hi⟩
/-- a step that stands in an order -/
theorem live_e (hr : rcP m may c) (hk : k < m) (hb : c.testBit k = false) (hy : may c k) (hw : 0 < wy m may (c ||| 2 ^ k)) : ∃ o, LyN m may m o ∧ ∃ i, i < m ∧ ctO o i = c ∧ o i = k := by
  obtain ⟨n, o, h1, rfl⟩ := hr.ly
  have e0 : ∀ i, i < n → (fun i => if i = n then k else o i) i = o i := fun i hi => if_neg (by omega)
  have h2 : LyN m may (n + 1) (fun i => if i = n then k else o i) := fun i hi => by
    by_cases q : i = n
    · subst q
      rw [ctO_eq e0]
      simp only [if_true]
      exact ⟨hk, hb, hy⟩
    · rw [ctO_eq (fun j hj => e0 j (by omega)), e0 i (by omega)]
      exact h1 i (by omega)
  obtain ⟨o', q1, q2⟩ := LyN.on _ (n + 1) _ h2 rfl (by
    simp only [ctO]
    rw [ctO_eq e0]
    simp only [if_true]
    exact hw)
  refine ⟨o', q2, n, h2.le, ctO_eq (fun i hi => by rw [q1 i (by omega)]; exact e0 i hi), ?_⟩
  rw [q1 n (by omega)]; simp only [if_true]
theorem wy_ex : 0 < wy m may 0 ↔ ∃ o, LyN m may m o := by
  constructor
  · intro h
    obtain ⟨o, h1, -⟩ := live_c rcP.zero h
    exact ⟨o, h1⟩
  · rintro ⟨o, h⟩
    exact h.pos m 0 rfl (Nat.zero_le _)
/-- as many under a stricter rule: it holds in all orders -/
theorem wy_same (hle : ∀ c k, c < 2 ^ m → k < m → may' c k → may c k) : wy m may' 0 = wy m may 0 ↔ ∀ o, LyN m may m o → LyN m may' m o := by
  constructor
  · intro e o ho
    have key : ∀ i, i ≤ m → wy m may' (ctO o i) = wy m may (ctO o i) ∧ LyN m may' i o := by
      intro i
      induction i with
      | zero => intro _; exact ⟨e, fun j hj => by omega⟩
      | succ i ih =>
        intro hi
        obtain ⟨h1, h2⟩ := ih (by omega)
        obtain ⟨h3, h4, h5⟩ := ho i (by omega)
        have hc := (ho.cut i (by omega)).1
        have hf : ctO o i ≠ 2 ^ m - 1 := fun e => by rw [e, full_bit] at h4; simp [h3] at h4
        rw [wy_step hc hf, wy_step hc hf] at h1
        have h6 := sumN_eqs (fun k hk => by
          by_cases hq : (ctO o i).testBit k = false ∧ may' (ctO o i) k
          · rw [wyT_yes hq.1 hq.2, wyT_yes hq.1 (hle _ k hc hk hq.2)]
            exact wy_mono hle _ (or_lt hc hk)
          · rw [wyT_no hq]; exact Nat.zero_le _) h1 (o i) h3
        rw [wyT_yes h4 h5] at h6
        have hp := ho.pos _ (i + 1) rfl hi
        simp only [ctO] at hp
        by_cases hq : may' (ctO o i) (o i)
        · rw [wyT_yes h4 hq] at h6
          refine ⟨h6, fun j hj => ?_⟩
          by_cases q : j = i
          · subst q; exact ⟨h3, h4, hq⟩
          · exact h2 j (by omega)
        · rw [wyT_no (fun z => hq z.2)] at h6; omega
    exact (key m (Nat.le_refl _)).2
  · intro h
    have key : ∀ c, c < 2 ^ m → rcP m may c → wy m may' c = wy m may c := by
      refine cut_ind (fun c => rcP m may c → wy m may' c = wy m may c) ?_
      intro c hc ih hr
      by_cases hf : c = 2 ^ m - 1
      · rw [hf, wy_full, wy_full]
      · rw [wy_step hc hf, wy_step hc hf]
        refine sumN_eq (fun k hk => ?_)
        by_cases hq : c.testBit k = false ∧ may c k
        · have h1 := ih k hk hq.1 (hr.step hc hk hq.1 hq.2)
          by_cases hp : 0 < wy m may (c ||| 2 ^ k)
          · obtain ⟨o, h2, i, hi, e1, e2⟩ := live_e hr hk hq.1 hq.2 hp
            have h3 := (h o h2 i hi).2.2
            rw [e1, e2] at h3
            rw [wyT_yes hq.1 hq.2, wyT_yes hq.1 h3, h1]
          · rw [wyT_yes hq.1 hq.2]
            by_cases hy : may' c k
            · rw [wyT_yes hq.1 hy, h1]
            · rw [wyT_no (fun z => hy z.2)]; omega
        · rw [wyT_no hq, wyT_no (fun q => hq ⟨q.1, hle c k hc hk q.2⟩)]
    exact key 0 (Nat.two_pow_pos m) rcP.zero
end Cuts
