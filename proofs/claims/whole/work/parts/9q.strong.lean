/-! the chart: COMMON and STRONG sets as places of one order -/
/-- which stand from place a to place b -/
noncomputable def ivS (m : Nat) (o : Nat → Nat) (a b : Nat) : Nat := bmk (fun t => @decide (∃ i, a ≤ i ∧ i ≤ b ∧ o i = t) (Classical.propDecidable _)) m
section IvS
variable {m : Nat} {may : Nat → Nat → Prop} {o : Nat → Nat} {a b c d : Nat}
theorem iv_bit {t : Nat} : Bs (ivS m o a b) t ↔ t < m ∧ ∃ i, a ≤ i ∧ i ≤ b ∧ o i = t := by
  show (ivS m o a b).testBit t = true ↔ _
  unfold ivS
  rw [bmk_bit, Bool.and_eq_true, decide_eq_true_eq]
  exact ⟨fun q => ⟨q.1, @of_decide_eq_true _ (Classical.propDecidable _) q.2⟩, fun q => ⟨q.1, @decide_eq_true _ (Classical.propDecidable _) q.2⟩⟩
theorem iv_lt : ivS m o a b < 2 ^ m := bmk_lt _ _
theorem iv_at (h : LyN m may m o) (hb : b < m) {i : Nat} (hi : i < m) : Bs (ivS m o a b) (o i) ↔ a ≤ i ∧ i ≤ b := by
  rw [iv_bit]
  constructor
  · rintro ⟨-, j, h1, h2, e⟩
    have := h.inj (i := j) (j := i) (by omega) hi e
    omega
  · rintro ⟨h1, h2⟩; exact ⟨(h i hi).1, i, h1, h2, rfl⟩
theorem iv_sub (h : LyN m may m o) (hab : a ≤ b) (hb : b < m) (hd : d < m) : (∀ t, Bs (ivS m o a b) t → Bs (ivS m o c d) t) ↔ c ≤ a ∧ b ≤ d := by
  constructor
  · intro q
    have h1 := (iv_at h hd (i := a) (by omega)).mp (q _ ((iv_at h hb (by omega)).mpr ⟨Nat.le_refl _, hab⟩))
    have h2 := (iv_at h hd (i := b) hb).mp (q _ ((iv_at h hb hb).mpr ⟨hab, Nat.le_refl _⟩))
    omega
  · rintro ⟨h1, h2⟩ t ht
    obtain ⟨q, i, q1, q2, q3⟩ := iv_bit.mp ht
    exact iv_bit.mpr ⟨q, i, by omega, by omega, q3⟩
theorem iv_inj (h : LyN m may m o) (hab : a ≤ b) (hb : b < m) (hcd : c ≤ d) (hd : d < m) (e : ivS m o a b = ivS m o c d) : a = c ∧ b = d := by
  have h1 := (iv_sub (c := c) (d := d) h hab hb hd).mp (fun t ht => by rw [← e]; exact ht)
  have h2 := (iv_sub (c := a) (d := b) h hcd hd hb).mp (fun t ht => by rw [e]; exact ht)
  omega
theorem iv_ne (h : LyN m may m o) (hab : a ≤ b) (hb : b < m) : ivS m o a b ≠ 0 := fun e => by
  have := (iv_at h hb (a := a) (i := a) (by omega)).mpr ⟨Nat.le_refl _, hab⟩
  rw [e] at this
  simp [Bs] at this
theorem iv_whole (h : LyN m may m o) (h0 : 0 < m) : ivS m o 0 (m - 1) = 2 ^ m - 1 := by
  apply Nat.eq_of_testBit_eq
  intro t
  rw [Nat.testBit_two_pow_sub_one]
  have hh : Bs (ivS m o 0 (m - 1)) t ↔ t < m := by
    rw [iv_bit]
    exact ⟨fun q => q.1, fun q => ⟨q, by obtain ⟨i, h1, h2⟩ := h.onto q; exact ⟨i, by omega, by omega, h2⟩⟩⟩
  by_cases q : t < m
  · rw [decide_eq_true q]; exact hh.mpr q
  · rw [decide_eq_false q]
    cases hq : (ivS m o 0 (m - 1)).testBit t
    · rfl
    · exact absurd (hh.mp hq) q
/-- what stands side by side always, stands from one place to another one -/
theorem sb_iv (h : LyN m may m o) {S : Nat} (hS : S < 2 ^ m) (h0 : S ≠ 0) (hs : sbP m may S) : ∃ a b, a ≤ b ∧ b < m ∧ S = ivS m o a b := by
  obtain ⟨t, ht⟩ := ne0_bit h0
  obtain ⟨i, hi, ei⟩ := h.onto (bit_lt hS ht)
  have hex : ∃ i, i < m ∧ Bs S (o i) := ⟨i, hi, by rw [ei]; exact ht⟩
  obtain ⟨a, ⟨a1, a2⟩, a3⟩ := g_min (fun i => i < m ∧ Bs S (o i)) (fun i => i) i ⟨hi, by rw [ei]; exact ht⟩
  obtain ⟨b, b1, b2, b3⟩ := last_ex (p := fun i => Bs S (o i)) (n := m) hex
  have hab : a ≤ b := a3 b ⟨b1, b2⟩
  have key : ∀ i, i < m → (Bs S (o i) ↔ a ≤ i ∧ i ≤ b) := fun i hi => by
    constructor
    · intro q
      refine ⟨a3 i ⟨hi, q⟩, Nat.le_of_not_lt (fun z => b3 i z hi q)⟩
    · rintro ⟨q1, q2⟩
      by_cases e1 : i = a
      · rw [e1]; exact a2
      · by_cases e2 : i = b
        · rw [e2]; exact b2
        · refine hs o h i hi ⟨o a, a2, ctO_bit.mpr ⟨a, by omega, rfl⟩⟩ ⟨o b, b2, fun q => ?_⟩
          obtain ⟨j, j1, j2⟩ := ctO_bit.mp q
          have := h.inj (i := j) (j := b) (by omega) b1 j2
          omega
  refine ⟨a, b, hab, b1, Nat.eq_of_testBit_eq fun t => ?_⟩
  by_cases q : t < m
  · obtain ⟨i, hi, rfl⟩ := h.onto q
    exact Bool.eq_iff_iff.mpr ((key i hi).trans (iv_at h b1 hi).symm)
  · rw [Nat.testBit_lt_two_pow (Nat.lt_of_lt_of_le hS (Nat.pow_le_pow_right (by omega) (by omega))), Nat.testBit_lt_two_pow (Nat.lt_of_lt_of_le iv_lt (Nat.pow_le_pow_right (by omega) (by omega)))]
/-- COMMON, from place to place -/
def cmI (m : Nat) (may : Nat → Nat → Prop) (o : Nat → Nat) (a b : Nat) : Prop := a ≤ b ∧ b < m ∧ sbP m may (ivS m o a b)
theorem cm_one (h : LyN m may m o) (ha : a < m) : cmI m may o a a := by
  refine ⟨Nat.le_refl _, ha, fun o' h' i hi ⟨x, x1, x2⟩ ⟨y, y1, y2⟩ => ?_⟩
  obtain ⟨-, p, p1, p2, p3⟩ := iv_bit.mp x1
  obtain ⟨-, q, q1, q2, q3⟩ := iv_bit.mp y1
  have e1 : p = a := by omega
  have e2 : q = a := by omega
  rw [e1] at p3
  rw [e2] at q3
  rw [← p3] at x2
  rw [← q3] at y2
  exact absurd x2 y2
theorem cm_all (h : LyN m may m o) (h0 : 0 < m) : cmI m may o 0 (m - 1) := by
  refine ⟨Nat.zero_le _, by omega, fun o' h' i hi _ _ => ?_⟩
  rw [iv_whole h h0]
  exact bs_full.mpr (h' i hi).1
end IvS
/-! STRONG ones and their PARTS, from place to place -/
def stI (C : Nat → Nat → Prop) (a b : Nat) : Prop := C a b ∧ ∀ c d, C c d → ¬ (a < c ∧ c ≤ b ∧ b < d) ∧ ¬ (c < a ∧ a ≤ d ∧ d < b)
def Pq (C : Nat → Nat → Prop) (a b p e : Nat) : Prop := stI C p e ∧ a ≤ p ∧ e ≤ b ∧ ¬ (p = a ∧ e = b) ∧ ∀ c d, stI C c d → a ≤ c → d ≤ b → ¬ (c = a ∧ d = b) → c ≤ p → e ≤ d → c = p ∧ e = d
section Prt
variable {m : Nat} {C : Nat → Nat → Prop} {a b : Nat}
theorem st_one (hC : ∀ a b, C a b → a ≤ b ∧ b < m) (h1 : ∀ a, a < m → C a a) (ha : a < m) : stI C a a := ⟨h1 a ha, fun c d _ => ⟨by omega, by omega⟩⟩
theorem Pq_disj (hC : ∀ a b, C a b → a ≤ b ∧ b < m) {p e p' e' : Nat} (h : Pq C a b p e) (h' : Pq C a b p' e') : (p = p' ∧ e = e') ∨ e < p' ∨ e' < p := by
  have b1 := hC _ _ h.1.1
  have b2 := hC _ _ h'.1.1
  have c1 := h.1.2 _ _ h'.1.1
  have c2 := h'.1.2 _ _ h.1.1
  by_cases q1 : e < p'
  · exact Or.inr (Or.inl q1)
  · by_cases q2 : e' < p
    · exact Or.inr (Or.inr q2)
    · left
      by_cases n1 : p ≤ p' ∧ e' ≤ e
      · have := h'.2.2.2.2 p e h.1 h.2.1 h.2.2.1 h.2.2.2.1 n1.1 n1.2
        omega
      · have := h.2.2.2.2 p' e' h'.1 h'.2.1 h'.2.2.1 h'.2.2.2.1 (by omega) (by omega)
        omega
theorem Pq_next (hC : ∀ a b, C a b → a ≤ b ∧ b < m) {p e : Nat} (hp : p = a ∨ ∃ x y, Pq C a b x y ∧ p = y + 1) (hap : a ≤ p) (he : e ≤ b) (hs : stI C p e) (hn : ¬ (p = a ∧ e = b)) (hm : ∀ e', stI C p e' → e' ≤ b → ¬ (p = a ∧ e' = b) → e' ≤ e) : Pq C a b p e := by
  refine ⟨hs, hap, he, hn, fun c d hcd hc hd hne h1 h2 => ?_⟩
  have bs := hC _ _ hs.1
  by_cases e1 : c = p
  · subst e1
    have := hm d hcd hd hne
    omega
  · rcases hp with hp | ⟨x, y, hx, hy⟩
    · omega
    · have bx := hC _ _ hx.1.1
      have cr := hx.1.2 _ _ hcd.1
      have := hx.2.2.2.2 c d hcd hc hd hne (by omega) (by omega)
      omega
/-- all PARTS, as they stand -/
def PLc (C : Nat → Nat → Prop) (a b c : Nat) (pb pe : Nat → Nat) : Prop := 0 < c ∧ pb 0 = a ∧ (∀ i, i + 1 < c → pb (i + 1) = pe i + 1) ∧ pe (c - 1) = b ∧ ∀ i, i < c → Pq C a b (pb i) (pe i)
section PLc
variable {c : Nat} {pb pe : Nat → Nat}
theorem PLc.le (hC : ∀ a b, C a b → a ≤ b ∧ b < m) (h : PLc C a b c pb pe) {i : Nat} (hi : i < c) : pb i ≤ pe i := (hC _ _ (h.2.2.2.2 i hi).1.1).1
theorem PLc.lt (hC : ∀ a b, C a b → a ≤ b ∧ b < m) (h : PLc C a b c pb pe) : ∀ {j i : Nat}, i < j → j < c → pe i < pb j
  | 0, i, hi, _ => by omega
  | j + 1, i, hi, hj => by
    have h1 := h.2.2.1 j hj
    by_cases e : i = j
    · subst e; omega
    · have h2 := PLc.lt hC h (j := j) (i := i) (by omega) (by omega)
      have h3 := h.le hC (i := j) (by omega)
      omega
theorem PLc.cover (hC : ∀ a b, C a b → a ≤ b ∧ b < m) (h : PLc C a b c pb pe) {x : Nat} (hx : a ≤ x ∧ x ≤ b) : ∃ i, i < c ∧ pb i ≤ x ∧ x ≤ pe i := by
  have H : ∀ j, j < c → x ≤ pe j → ∃ i, i < c ∧ pb i ≤ x ∧ x ≤ pe i := by
    intro j
    induction j with
    | zero => intro hj hx2; exact ⟨0, hj, by rw [h.2.1]; exact hx.1, hx2⟩
    | succ j ih =>
      intro hj hx2
      by_cases q : x ≤ pe j
      · exact ih (by omega) q
      · exact ⟨j + 1, hj, by rw [h.2.2.1 j hj]; omega, hx2⟩
  have h0 := h.1
  exact H (c - 1) (by omega) (by rw [h.2.2.2.1]; exact hx.2)
theorem PLc.all (hC : ∀ a b, C a b → a ≤ b ∧ b < m) (h : PLc C a b c pb pe) {p e : Nat} : Pq C a b p e ↔ ∃ i, i < c ∧ pb i = p ∧ pe i = e := by
  constructor
  · intro q
    have bq := hC _ _ q.1.1
    obtain ⟨i, hi, h1, h2⟩ := h.cover hC (x := p) ⟨q.2.1, by have := q.2.2.1; omega⟩
    have := Pq_disj hC (h.2.2.2.2 i hi) q
    exact ⟨i, hi, by omega, by omega⟩
  · rintro ⟨i, hi, rfl, rfl⟩; exact h.2.2.2.2 i hi
theorem PLc.two (hC : ∀ a b, C a b → a ≤ b ∧ b < m) (h : PLc C a b c pb pe) : 2 ≤ c := by
  have h0 := h.1
  refine Classical.byContradiction fun q => ?_
  have e : c = 1 := by omega
  subst e
  have := (h.2.2.2.2 0 (by omega)).2.2.2.1
  exact this ⟨h.2.1, h.2.2.2.1⟩
theorem PLc.ge (hC : ∀ a b, C a b → a ≤ b ∧ b < m) (h : PLc C a b c pb pe) : ∀ {i : Nat}, i < c → a + i ≤ pb i
  | 0, _ => by rw [h.2.1]; omega
  | i + 1, hi => by
    have h1 := PLc.ge hC h (i := i) (by omega)
    have h2 := h.lt hC (i := i) (j := i + 1) (by omega) hi
    have h3 := h.le hC (i := i) (by omega)
    omega
end PLc
end Prt
/-! their order -/
/-- the least MOMENT from place p on, n places more -/
def lsR (o : Nat → Nat) (p : Nat) : Nat → Nat
  | 0 => o p
  | n + 1 => min (lsR o p n) (o (p + n + 1))
def lsT (o : Nat → Nat) (p e : Nat) : Nat := lsR o p (e - p)
theorem lsR_is {o : Nat → Nat} {p : Nat} : ∀ n, (∃ i, p ≤ i ∧ i ≤ p + n ∧ o i = lsR o p n) ∧ ∀ i, p ≤ i → i ≤ p + n → lsR o p n ≤ o i
  | 0 => by
    refine ⟨⟨p, by omega, by omega, rfl⟩, fun i h1 h2 => ?_⟩
    have e : i = p := by omega
    subst e
    exact Nat.le_refl _
  | n + 1 => by
    obtain ⟨⟨i, h1, h2, h3⟩, h4⟩ := lsR_is (o := o) (p := p) n
    simp only [lsR]
    constructor
    · by_cases q : lsR o p n ≤ o (p + n + 1)
      · exact ⟨i, h1, by omega, by omega⟩
      · exact ⟨p + n + 1, by omega, by omega, by omega⟩
    · intro j j1 j2
      by_cases e : j = p + n + 1
      · subst e; exact Nat.min_le_right _ _
      · exact Nat.le_trans (Nat.min_le_left _ _) (h4 j j1 (by omega))
theorem lsT_is {o : Nat → Nat} {p e : Nat} (h : p ≤ e) : (∃ i, p ≤ i ∧ i ≤ e ∧ o i = lsT o p e) ∧ ∀ i, p ≤ i → i ≤ e → lsT o p e ≤ o i := by
  have := lsR_is (o := o) (p := p) (e - p)
  rw [show p + (e - p) = e by omega] at this
  exact this
/-- TURNS -/
def tuP (C : Nat → Nat → Prop) (a b : Nat) : Prop := ∃ p e p' e', Pq C a b p e ∧ Pq C a b p' e' ∧ p < p' ∧ ¬ (p = a ∧ e' = b) ∧ C p e'
/-- .. told from its first end on -/
def dirP (C : Nat → Nat → Prop) (o : Nat → Nat) (a b : Nat) : Prop := ∃ e p, Pq C a b a e ∧ Pq C a b p b ∧ lsT o a e < lsT o p b
noncomputable def kyP (m : Nat) (C : Nat → Nat → Prop) (o : Nat → Nat) (a b p e : Nat) : Nat := cif (tuP C a b) (cif (dirP C o a b) p (m - p)) (lsT o p e)
/-- PARTS in their order -/
def SPp (m : Nat) (C : Nat → Nat → Prop) (o : Nat → Nat) (a b c : Nat) (pb pe : Nat → Nat) : Prop := (∀ p e, Pq C a b p e ↔ ∃ i, i < c ∧ pb i = p ∧ pe i = e) ∧ ∀ i j, i < j → j < c → kyP m C o a b (pb i) (pe i) < kyP m C o a b (pb j) (pe j)
theorem inc_uq {K K' : Nat → Nat} {c c' : Nat} (h : ∀ i j, i < j → j < c → K i < K j) (h' : ∀ i j, i < j → j < c' → K' i < K' j) (im : ∀ i, i < c → ∃ j, j < c' ∧ K' j = K i) (im' : ∀ i, i < c' → ∃ j, j < c ∧ K j = K' i) : c = c' ∧ ∀ i, i < c → K i = K' i := by
  have H : ∀ n i, i < n → i < c → i < c' ∧ K i = K' i := by
    intro n
    induction n with
    | zero => intro i hi; omega
    | succ n ih =>
      intro i hin hi
      obtain ⟨j, hj, ej⟩ := im i hi
      have j1 : i ≤ j := Nat.le_of_not_lt (fun q => by
        have := (ih j (by omega) (by omega)).2
        have := h j i q hi
        omega)
      have ic : i < c' := by omega
      obtain ⟨l, hl, el⟩ := im' i ic
      have l1 : i ≤ l := Nat.le_of_not_lt (fun q => by
        have := (ih l (by omega) hl).2
        have := h' l i q ic
        omega)
      refine ⟨ic, ?_⟩
      have q1 : K i ≤ K l := by
        by_cases e : i = l
        · rw [e]; exact Nat.le_refl _
        · exact Nat.le_of_lt (h i l (by omega) hl)
      have q2 : K' i ≤ K' j := by
        by_cases e : i = j
        · rw [e]; exact Nat.le_refl _
        · exact Nat.le_of_lt (h' i j (by omega) hj)
      omega
  have c1 : c ≤ c' := Nat.le_of_not_lt (fun q => by have := (H c c' (by omega) q).1; omega)
  have c2 : c' ≤ c := Nat.le_of_not_lt (fun q => by
    -- K' c has no place
    obtain ⟨l, hl, el⟩ := im' c q
    have e1 := (H c l hl hl).2
    have := h' l c hl q
    omega)
  exact ⟨by omega, fun i hi => (H c i hi hi).2⟩
section Ord
variable {m : Nat} {C : Nat → Nat → Prop} {a b : Nat} {o : Nat → Nat} {may : Nat → Nat → Prop}
theorem ky_inj (hO : LyN m may m o) (hC : ∀ a b, C a b → a ≤ b ∧ b < m) {p e p' e' : Nat} (h : Pq C a b p e) (h' : Pq C a b p' e') (he : kyP m C o a b p e = kyP m C o a b p' e') : p = p' ∧ e = e' := by
  have b1 := hC _ _ h.1.1
  have b2 := hC _ _ h'.1.1
  have dj := Pq_disj hC h h'
  unfold kyP at he
  by_cases t : tuP C a b
  · rw [cif_y t, cif_y t] at he
    by_cases q : dirP C o a b
    · rw [cif_y q, cif_y q] at he; omega
    · rw [cif_n q, cif_n q] at he; omega
  · rw [cif_n t, cif_n t] at he
    obtain ⟨⟨i, i1, i2, i3⟩, -⟩ := lsT_is (o := o) b1.1
    obtain ⟨⟨j, j1, j2, j3⟩, -⟩ := lsT_is (o := o) b2.1
    have := hO.inj (i := i) (j := j) (by omega) (by omega) (by omega)
    omega
theorem SPp_uq (hO : LyN m may m o) (hC : ∀ a b, C a b → a ≤ b ∧ b < m) {c c' : Nat} {pb pe pb' pe' : Nat → Nat} (h : SPp m C o a b c pb pe) (h' : SPp m C o a b c' pb' pe') : c = c' ∧ ∀ i, i < c → pb i = pb' i ∧ pe i = pe' i := by
  obtain ⟨e1, e2⟩ := inc_uq (K := fun i => kyP m C o a b (pb i) (pe i)) (K' := fun i => kyP m C o a b (pb' i) (pe' i)) h.2 h'.2 (fun i hi => by
    obtain ⟨j, hj, q1, q2⟩ := (h'.1 (pb i) (pe i)).mp ((h.1 _ _).mpr ⟨i, hi, rfl, rfl⟩)
    exact ⟨j, hj, by show kyP m C o a b (pb' j) (pe' j) = _; rw [q1, q2]⟩) (fun i hi => by
    obtain ⟨j, hj, q1, q2⟩ := (h.1 (pb' i) (pe' i)).mp ((h'.1 _ _).mpr ⟨i, hi, rfl, rfl⟩)
    exact ⟨j, hj, by show kyP m C o a b (pb j) (pe j) = _; rw [q1, q2]⟩)
  exact ⟨e1, fun i hi => ky_inj hO hC ((h.1 _ _).mpr ⟨i, hi, rfl, rfl⟩) ((h'.1 _ _).mpr ⟨i, by omega, rfl, rfl⟩) (e2 i hi)⟩
end Ord
