/-! memory, by the class -/
section Rem0
variable {X : HX} {Y : HY} {Q : Qt} {r : Ly}
theorem X0_remember_s {m i : Nat} (hm : m < 40) (hi : i < 40) (h : X 0 1 = nI m) (k : ∀ X' Y', (∀ c, c ≠ 0 → c ≠ 1 → c ≠ 2 → c ≠ 3 → c ≠ 4 → c ≠ 5 → X' c = X c) → (∀ j, j ≠ 1 → X' 0 j = X 0 j) → X' 0 1 = nI (m + 1) → (∀ c, 1 ≤ c → c ≤ 5 → X' c m = X (c + 8) i ∧ ∀ j, j ≠ m → X' c j = X c j) → (∀ c, c ≠ 0 → Y' c = Y c) → (∀ j, j ≠ 2 → Y' 0 j = Y 0 j) → Y' 0 2 = (Y 0 2 ||| (lN 1 <<< ((nI m).toInt64 &&& 63))) → Q (.inl none) (LX0_6 ++ r) X' Y') : tX0_remember [.ref 0, .ref 8, .int (nI i)] (LX0_6 ++ r) X Y Q := by
  apply tX0_remember_i
  simp (disch := omega) only [up2_out, h, m_clamp, m_in, m_add, m_lt]
  refine ⟨fun _ => ⟨hi, hm, hi, hm, hi, hm, hi, hm, hi, hm, ?_⟩, fun q => absurd hm q⟩
  refine k _ _ (fun c h0 h1 h2 h3 h4 h5 => ?_) (fun j hj => ?_) up2_same (fun c h1 h5 => ?_) (fun c hc => up2_row hc) (fun j hj => up2_idx hj) up2_same
  · rw [up2_row h0, up2_row h5, up2_row h4, up2_row h3, up2_row h2, up2_row h1]
  · rw [up2_idx hj, up2_out (by omega), up2_out (by omega), up2_out (by omega), up2_out (by omega), up2_out (by omega)]
  · have hc : c = 1 ∨ c = 2 ∨ c = 3 ∨ c = 4 ∨ c = 5 := by omega
    refine ⟨?_, fun j hj => ?_⟩
    · rcases hc with rfl | rfl | rfl | rfl | rfl <;> simp (disch := omega) only [up2_out, up2_same]
    · rcases hc with rfl | rfl | rfl | rfl | rfl <;> simp (disch := omega) only [up2_out, up2_idx]
end Rem0
/-- all but what memory says -/
def KpY (b : Bool) (X X' : HX) (Y Y' : HY) : Prop := (∀ c, c < nC8 b → (c = 2 ∨ (14 < c ∧ c < 25) ∨ c = 61 ∨ 79 ≤ c) → X' c = X c) ∧ (∀ i, i ≠ 17 → X' 0 i = X 0 i) ∧ (∀ i, i ≠ 1 → X' 9 i = X 9 i) ∧ (∀ c, c < nC8 b → c ≠ 9 → Y' c = Y c) ∧ ∀ i, i ≠ 2 → Y' 9 i = Y 9 i
section Mem8
variable {CK S1 S2 : HX → St → Prop} {X X' : HX} {Y Y' : HY} {s : St} {b : Bool} {Q : Qt} {t : Tp}
/-- the lines are remembered, one by one -/
theorem mem_go {n : Nat} {D : Nat → Nat → Int32} (hs : SI s) (hn : sN s + n ≤ 40) (hD : okD (sG s) n D) : ∀ m i X Y, n - i = m → i ≤ n → X 3 5 = nI n → (∀ k, k < n → X 4 k = D k 0 ∧ X 5 k = D k 1 ∧ X 6 k = D k 2 ∧ X 7 k = D k 3 ∧ X 8 k = D k 4) → BV 9 X (meF s i D) → Y 9 2 = lN (fm (meF s i D)) → (∀ X' Y', (∀ c, c < nC8 b → (c < 9 ∨ 14 < c) → X' c = X c) → (∀ j, j ≠ 1 → X' 9 j = X 9 j) → (∀ c, c < nC8 b → c ≠ 9 → Y' c = Y c) → (∀ j, j ≠ 2 → Y' 9 j = Y 9 j) → BV 9 X' (meF s n D) → Y' 9 2 = lN (fm (meF s n D)) → tX8_forget b [.ref 0] (LX8 b) X' Y' (cK0 (LX8 b) Q (fun X2 Y2 => Q (.inl (some (.int (X2 3 5)))) (LX8 b) X2 Y2))) → hX8_memory_72 Q b (nI i) X Y := by
  have n79 := nC8_79 b
  have ln : (LX8 b).length = nC8 b := rfl
  intro m
  induction m with
  | zero =>
    intro i X Y em hi h5 hv bv ef k
    have e : i = n := by omega
    subst e
    apply hX8_memory_72_i
    rw [h5, m_le (by omega) (by omega)]
    exact ⟨fun _ => k X Y (fun _ _ _ => rfl) (fun _ _ => rfl) (fun _ _ _ => rfl) (fun _ _ => rfl) bv ef, fun q => absurd (Nat.le_refl _) q⟩
  | succ m ih =>
    intro i X Y em hi h5 hv bv ef k
    apply hX8_memory_72_i
    rw [h5, m_le (by omega) (by omega), m_le (by omega) (by omega)]
    refine ⟨fun q => by omega, fun _ => ⟨fun q => by omega, fun _ => ?_⟩⟩
    obtain ⟨b1, b2, b3, b4⟩ := bv
    have b2 : X 9 1 = nI (sN s + i) := b2
    refine X0_remember_s (r := []) (m := sN s + i) (i := i) (by omega) (by omega) b2 (fun X3 Y3 f0 f1 f2 f3 g0 g1 g2 => cS0_mk ?_)
    rw [ln]
    have a0 : mg [9, 10, 11, 12, 13, 14, 15, 16, 3, 4, 5, 6, 7, 8, 1, 2] (nC8 b) X X3 9 = X3 0 := mg_in 0 (by omega) rfl rfl
    have a1 : ∀ c, 1 ≤ c → c ≤ 5 → mg [9, 10, 11, 12, 13, 14, 15, 16, 3, 4, 5, 6, 7, 8, 1, 2] (nC8 b) X X3 (9 + c) = X3 c := fun c h1 h5 => by
      have hc : c = 1 ∨ c = 2 ∨ c = 3 ∨ c = 4 ∨ c = 5 := by omega
      rcases hc with rfl | rfl | rfl | rfl | rfl
      · exact mg_in 1 (by omega) rfl rfl
      · exact mg_in 2 (by omega) rfl rfl
      · exact mg_in 3 (by omega) rfl rfl
      · exact mg_in 4 (by omega) rfl rfl
      · exact mg_in 5 (by omega) rfl rfl
    have fx : ∀ c, c < nC8 b → (c < 9 ∨ 14 < c) → mg [9, 10, 11, 12, 13, 14, 15, 16, 3, 4, 5, 6, 7, 8, 1, 2] (nC8 b) X X3 c = X c := fun c hc hd => mg_fr (ch := [0, 1, 2, 3, 4, 5]) (fun i _ hj => f0 i (fun e => hj (by simp [e])) (fun e => hj (by simp [e])) (fun e => hj (by simp [e])) (fun e => hj (by simp [e])) (fun e => hj (by simp [e])) (fun e => hj (by simp [e]))) hc (by simp; omega)
    have y0 : mg [9, 10, 11, 12, 13, 14, 15, 16, 3, 4, 5, 6, 7, 8, 1, 2] (nC8 b) Y Y3 9 = Y3 0 := mg_in 0 (by omega) rfl rfl
    have fy : ∀ c, c < nC8 b → c ≠ 9 → mg [9, 10, 11, 12, 13, 14, 15, 16, 3, 4, 5, 6, 7, 8, 1, 2] (nC8 b) Y Y3 c = Y c := fun c hc hd => mg_fr (ch := [0]) (fun i _ hj => g0 i (fun e => hj (by simp [e]))) hc (by simpa using hd)
    have x9 : sb [9, 10, 11, 12, 13, 14, 15, 16, 3, 4, 5, 6, 7, 8, 1, 2] X 0 = X 9 := rfl
    have y9 : sb [9, 10, 11, 12, 13, 14, 15, 16, 3, 4, 5, 6, 7, 8, 1, 2] Y 0 = Y 9 := rfl
    generalize mg [9, 10, 11, 12, 13, 14, 15, 16, 3, 4, 5, 6, 7, 8, 1, 2] (nC8 b) X X3 = X4 at *
    generalize mg [9, 10, 11, 12, 13, 14, 15, 16, 3, 4, 5, 6, 7, 8, 1, 2] (nC8 b) Y Y3 = Y4 at *
    have j9 : ∀ j, j ≠ 1 → X4 9 j = X 9 j := fun j hj => by rw [a0, f1 j hj, x9]
    have w9 : ∀ j, j ≠ 2 → Y4 9 j = Y 9 j := fun j hj => by rw [y0, g1 j hj, y9]
    rw [m_add i 1]
    have old : ∀ c, 1 ≤ c → c ≤ 5 → ∀ j, j ≠ sN s + i → X4 (9 + c) j = X (9 + c) j := fun c h1 h5 j hj => by
      rw [a1 c h1 h5, (f3 c h1 h5).2 j hj]
      have hc : c = 1 ∨ c = 2 ∨ c = 3 ∨ c = 4 ∨ c = 5 := by omega
      rcases hc with rfl | rfl | rfl | rfl | rfl <;> rfl
    have new : ∀ c, 1 ≤ c → c ≤ 5 → X4 (9 + c) (sN s + i) = X (3 + c) i := fun c h1 h5 => by
      rw [a1 c h1 h5, (f3 c h1 h5).1]
      have hc : c = 1 ∨ c = 2 ∨ c = 3 ∨ c = 4 ∨ c = 5 := by omega
      rcases hc with rfl | rfl | rfl | rfl | rfl <;> rfl
    refine ih (i + 1) X4 Y4 (by omega) (by omega) (by rw [fx 3 (by omega) (by omega)]; exact h5) (fun k hk => ?_) ⟨by rw [j9 0 (by omega)]; exact b1, by rw [a0, f2]; rfl, fun k hk => ?_, fun k hk => ?_⟩ ?_ (fun X5 Y5 u1 u2 u3 u4 u5 u6 => k X5 Y5 (fun c hc hd => (u1 c hc hd).trans (fx c hc hd)) (fun j hj => (u2 j hj).trans (j9 j hj)) (fun c hc hd => (u3 c hc hd).trans (fy c hc hd)) (fun j hj => (u4 j hj).trans (w9 j hj)) u5 u6)
    · rw [fx 4 (by omega) (by omega), fx 5 (by omega) (by omega), fx 6 (by omega) (by omega), fx 7 (by omega) (by omega), fx 8 (by omega) (by omega)]
      exact hv k hk
    · have hk : k < sN s + (i + 1) := hk
      by_cases q : k = sN s + i
      · subst q
        obtain ⟨v0, v1, v2, v3, v4, _⟩ := meF_new (n := i + 1) (hD i (by omega)) hs.1
        obtain ⟨d0, d1, d2, d3, d4⟩ := hv i (by omega)
        rw [new 1 (by omega) (by omega), new 2 (by omega) (by omega), new 3 (by omega) (by omega), new 4 (by omega) (by omega), new 5 (by omega) (by omega), ← v0, ← v1, ← v2, ← v3, ← v4]
        exact ⟨d0, d1, d2, d3, d4⟩
      · rw [old 1 (by omega) (by omega) k q, old 2 (by omega) (by omega) k q, old 3 (by omega) (by omega) k q, old 4 (by omega) (by omega) k q, old 5 (by omega) (by omega) k q]
        exact b3 k (by show k < sN s + i; omega)
    · rw [fx (9 + 6) (by omega) (by omega), fx (9 + 7) (by omega) (by omega)]
      exact b4 k hk
    · rw [y0, g2, y9, ef, meF_fm, m_Lshl (by omega), Nat.one_mul, m_Lor]
theorem X8_memory_s (h : Qw CK S1 S2 X Y s) (ht : TV8 X t) (kb : ∀ b' X' Y', b' ≤ t.1 → (∀ (α : Type) (bad : Nat → α) good, txK t (sG s) bad good = bad b') → KpY b X X' Y Y' → X' 0 17 = nI b' → X' 1 1 = nI 0 → Qw CK S1 S2 X' Y' s → Q (.inr XA) (LX8 b) X' Y') (ku : ∀ n D X' Y', (∀ (α : Type) (bad : Nat → α) good, txK t (sG s) bad good = good n D) → ¬ sN s + n ≤ 40 → KpY b X X' Y Y' → X' 0 17 = -1 → X' 1 1 = nI 0 → Qw CK S1 S2 X' Y' s → Q (.inr XU) (LX8 b) X' Y') (kk : ∀ n D X' Y', (∀ (α : Type) (bad : Nat → α) good, txK t (sG s) bad good = good n D) → sN s + n ≤ 40 → okD (sG s) n D → KpY b X X' Y Y' → X' 0 17 = -1 → X' 1 1 = nI 0 → Qw CK S1 S2 X' Y' (meF s n D) → Q (rI (nI n)) (LX8 b) X' Y') : tX8_memory b [.ref 0] (LX8 b) X Y Q := by
  have n79 := nC8_79 b
  have ln : (LX8 b).length = nC8 b := rfl
  have si := h.si
  have h40 := si.2.1
  have ht4 := ht.1
  obtain ⟨b1, b2, b3, b4⟩ := h.bv
  apply tX8_memory_i
  rw [b1]
  have tv : TV6 (sb [3, 4, 5, 6, 7, 8, 1, 2] X) t := ht
  -- what stays behind the reading
  have base : ∀ (X3 : HX) (Y3 : HY) (v : Int32), Kq6 (sb [3, 4, 5, 6, 7, 8, 1, 2] X) X3 (sb [3, 4, 5, 6, 7, 8, 1, 2] Y) Y3 → ∀ Xb, Xb = up2 (up2 (mg [3, 4, 5, 6, 7, 8, 1, 2] (nC8 b) X X3) 0 17 v) 1 1 (nI 0) → ∀ Yb, Yb = mg [3, 4, 5, 6, 7, 8, 1, 2] (nC8 b) Y Y3 → (∀ c, c < nC8 b → (c = 2 ∨ 8 < c) → Xb c = X c) ∧ (∀ i, i ≠ 17 → Xb 0 i = X 0 i) ∧ (∀ c, c < nC8 b → Yb c = Y c) ∧ Xb 0 17 = v ∧ Xb 1 1 = nI 0 ∧ (∀ j, j < 6 → Xb (3 + j) = X3 j) := by
    intro X3 Y3 v k3 Xb eX Yb eY
    have z0 : mg [3, 4, 5, 6, 7, 8, 1, 2] (nC8 b) X X3 0 = X 0 := mg_out (by omega) (by decide)
    refine ⟨fun c hc hd => ?_, fun i hi => ?_, fun c hc => ?_, ?_, ?_, fun j hj => ?_⟩
    · rw [eX, up2_row (by omega), up2_row (by omega)]
      rcases hd with e | e
      · subst e
        rw [show mg [3, 4, 5, 6, 7, 8, 1, 2] (nC8 b) X X3 2 = X3 7 from mg_in 7 (by omega) rfl rfl, (k3 7 (by omega)).1 (by omega)]; rfl
      · exact mg_out hc (by simp; omega)
    · rw [eX, up2_out (by omega), up2_idx hi, z0]
    · rw [eY]
      exact mg_fr (ch := []) (fun i hi _ => (k3 i (by simpa using hi)).2) hc (by simp)
    · rw [eX, up2_out (by omega), up2_same]
    · rw [eX, up2_same]
    · rw [eX, up2_row (by omega), up2_row (by omega)]
      have hc : j = 0 ∨ j = 1 ∨ j = 2 ∨ j = 3 ∨ j = 4 ∨ j = 5 := by omega
      rcases hc with rfl | rfl | rfl | rfl | rfl | rfl
      · exact mg_in 0 (by omega) rfl rfl
      · exact mg_in 1 (by omega) rfl rfl
      · exact mg_in 2 (by omega) rfl rfl
      · exact mg_in 3 (by omega) rfl rfl
      · exact mg_in 4 (by omega) rfl rfl
      · exact mg_in 5 (by omega) rfl rfl
  have kpy : ∀ (Xb : HX) (Yb : HY), (∀ c, c < nC8 b → (c = 2 ∨ 8 < c) → Xb c = X c) → (∀ i, i ≠ 17 → Xb 0 i = X 0 i) → (∀ c, c < nC8 b → Yb c = Y c) → KpY b X Xb Y Yb := fun Xb Yb q1 q2 q3 => ⟨fun c hc hd => q1 c hc (by omega), q2, fun i _ => by rw [q1 9 (by omega) (by omega)], fun c hc _ => q3 c hc, fun i _ => by rw [q3 9 (by omega)]⟩
  have qw : ∀ (Xb : HX) (Yb : HY), (∀ c, c < nC8 b → (c = 2 ∨ 8 < c) → Xb c = X c) → (∀ c, c < nC8 b → Yb c = Y c) → Qw CK S1 S2 Xb Yb s := fun Xb Yb q1 q2 => h.up9 (fun c h1 h2 _ => ⟨q1 c (by omega) (by omega), q2 c (by omega)⟩)
  rcases txK_c (t := t) (G := sG s) si.1 with ⟨b', hb', hx⟩ | ⟨n, D, hD, n4, hx⟩
  · refine X6_read_s (PB := fun x => x = b') (PG := fun _ _ => False) tv ⟨fun X3 Y3 c k3 ec => cS1_mk ?_, fun X3 Y3 n D _ _ _ z => z.elim⟩ (by rw [hx Prop])
    subst ec
    rw [ln]
    obtain ⟨q1, q2, q3, q4, q5, _⟩ := base X3 Y3 (nI c) k3 _ rfl _ rfl
    rw [q4, m_neg (by omega)]
    exact ⟨fun z => z.elim, fun _ => kb c _ _ hb' hx (kpy _ _ q1 q2 q3) q4 q5 (qw _ _ q1 q3)⟩
  · refine X6_read_s (PB := fun _ => False) (PG := fun n1 D1 => n1 = n ∧ D1 = D) tv ⟨fun _ _ _ _ z => z.elim, fun X3 Y3 n1 D1 k3 e5 ed ⟨en, eD⟩ => cS1_mk ?_⟩ (by rw [hx Prop]; exact ⟨rfl, rfl⟩)
    subst en eD
    rw [ln]
    obtain ⟨q1, q2, q3, q4, q5, q6⟩ := base X3 Y3 (-1) k3 _ rfl _ rfl
    have c3 : up2 (up2 (mg [3, 4, 5, 6, 7, 8, 1, 2] (nC8 b) X X3) 0 17 (-1)) 1 1 (nI 0) 3 5 = nI n1 := by rw [show (3 : Nat) = 3 + 0 from rfl, q6 0 (by omega)]; exact e5
    have c9 : up2 (up2 (mg [3, 4, 5, 6, 7, 8, 1, 2] (nC8 b) X X3) 0 17 (-1)) 1 1 (nI 0) 9 1 = nI (sN s) := by rw [q1 9 (by omega) (by omega)]; exact b2
    generalize up2 (up2 (mg [3, 4, 5, 6, 7, 8, 1, 2] (nC8 b) X X3) 0 17 (-1)) 1 1 (nI 0) = Xb at *
    generalize mg [3, 4, 5, 6, 7, 8, 1, 2] (nC8 b) Y Y3 = Yb at *
    rw [q4, c3, c9, m_add, m_le (by omega) (by omega)]
    refine ⟨fun _ => ⟨fun w => ?_, fun w => ku n1 D1 Xb Yb hx w (kpy _ _ q1 q2 q3) q4 q5 (qw _ _ q1 q3)⟩, fun z => absurd rfl z⟩
    have hw := h.2.2.2.2.1
    have pv := h.2.2.2.2.2.1
    refine mem_go (s := s) (n := n1) (D := D1) si w hD _ 0 Xb Yb rfl (by omega) c3 (fun i hi => ?_) ?_ ?_ (fun X4 Y4 u1 u2 u3 u4 bv ef => ?_)
    · have := ed i hi (by omega)
      rw [show (4 : Nat) = 3 + 1 from rfl, show (5 : Nat) = 3 + 2 from rfl, show (6 : Nat) = 3 + 3 from rfl, show (7 : Nat) = 3 + 4 from rfl, show (8 : Nat) = 3 + 5 from rfl, q6 1 (by omega), q6 2 (by omega), q6 3 (by omega), q6 4 (by omega), q6 5 (by omega)]
      exact this
    · have e9 : ∀ c, 9 ≤ c → c ≤ 9 + 7 → Xb c = X c := fun c z1 z2 => q1 c (by omega) (by omega)
      refine BV.of (X := X) ⟨b1, b2, fun k hk => ?_, b4⟩ e9
      have hk : k < sN s := hk
      obtain ⟨o1, o2, o3, o4, o5, o6⟩ := meF_old (n := 0) (D := D1) hk
      rw [o1, o2, o3, o4, o5]
      exact b3 k hk
    · rw [q3 9 (by omega)]
      have ef := h.2.2.2.1
      rw [ef]
      congr 1
      show bmk _ _ = bmk _ _
      apply Nat.eq_of_testBit_eq
      intro i
      rw [bmk_bit, bmk_bit]
      by_cases q : i < sN s
      · rw [show sFo (meF s 0 D1) i = sFo s i from if_pos q]; rfl
      · rw [decide_eq_false (show ¬ i < sN s from q), decide_eq_false (show ¬ i < sN (meF s 0 D1) from q)]; rfl
    · refine Q8_forget h.1 (meF_si si w hD) bv ef ⟨by rw [u1 33 (by omega) (by omega), q1 33 (by omega) (by omega)]; exact hw.1, by rw [u1 37 (by omega) (by omega), q1 37 (by omega) (by omega)]; exact hw.2⟩ (fun i hi => ?_) (fun X5 f5 h5 => cK0_mk ?_)
      · have := pv i hi
        show X4 45 i = _ ∧ _
        rw [u1 45 (by omega) (by omega), q1 45 (by omega) (by omega)]; exact this
      · have e35 : X5 3 5 = nI n1 := by rw [f5 3 (by omega) (by omega), u1 3 (by omega) (by omega)]; exact c3
        rw [e35]
        refine kk n1 D1 X5 Y4 hx w hD ⟨fun c hc hd => ?_, fun i hi => ?_, fun i hi => ?_, fun c hc hd => ?_, fun i hi => ?_⟩ ?_ ?_ h5
        · rw [f5 c hc (by omega), u1 c hc (by omega), q1 c hc (by omega)]
        · rw [f5 0 (by omega) (by omega), u1 0 (by omega) (by omega), q2 i hi]
        · rw [f5 9 (by omega) (by omega), u2 i hi, q1 9 (by omega) (by omega)]
        · rw [u3 c hc hd, q3 c hc]
        · rw [u4 i hi, q3 9 (by omega)]
        · rw [f5 0 (by omega) (by omega), u1 0 (by omega) (by omega)]; exact q4
        · rw [f5 1 (by omega) (by omega), u1 1 (by omega) (by omega)]; exact q5
end Mem8
