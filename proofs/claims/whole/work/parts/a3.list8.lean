/-! a LIST, by the class -/
abbrev Ls : Type := Nat × (Nat → Nat)
/-- a LIST of so many guests, with those who have met -/
def lsI (l : Ls) : Prop := l.1 ≤ 60 ∧ GM 60 l.2 ∧ (∀ i j, Eo l.2 i j → i < l.1 ∧ j < l.1) ∧ ∀ i, l.2 i < 1152921504606846976
def lsS (l : Ls) : Nat → Prop := Bs (2 ^ l.1 - 1)
def lsC (l : Ls) : Prop := gCh (Eo l.2) (lsS l)
def lsA (l : Ls) : Prop := gAT (Eo l.2) (lsS l)
noncomputable def lsG (l : Ls) : Nat := Classical.epsilon (mxP (Eo l.2) (lsS l))
/-- how many have met whom, both ways -/
def enD (M : Nat → Nat) : Nat := sumN (fun v => cnt (M v)) 60
def lsPr (l : Ls) : Nat := enD l.2 / 2
/-- what is known of a LIST, in the book's cells from c on -/
def LF (c : Nat) (X : HX) (l : Ls) : Prop := X c 10 = iB (lsC l ∧ lsA l) ∧ X c 11 = iB (lsC l) ∧ X c 12 = cif (lsC l) (nI (lsG l)) (-1) ∧ X c 13 = nI (lsPr l) ∧ X c 14 = nI l.1
theorem LF.of {c d : Nat} {X X' : HX} {l : Ls} (h : LF d X l) (e : ∀ i, i ∈ [10, 11, 12, 13, 14] → X' c i = X d i) : LF c X' l := by
  unfold LF at h ⊢
  rw [e 10 (by decide), e 11 (by decide), e 12 (by decide), e 13 (by decide), e 14 (by decide)]
  exact h
theorem mxP_uq {E : Nat → Nat → Prop} {S : Nat → Prop} {a b : Nat} (ha : mxP E S a) (hb : mxP E S b) : a = b := by
  obtain ⟨⟨K, k1, k2, rfl⟩, h1⟩ := ha
  obtain ⟨⟨L, l1, l2, rfl⟩, h2⟩ := hb
  exact Nat.le_antisymm (h2 K k1 k2) (h1 L l1 l2)
theorem lsG_eq {l : Ls} {g : Nat} (h : mxP (Eo l.2) (lsS l) g) : lsG l = g := eps_uq h (fun _ hy => mxP_uq hy h)
/-- the bytes tell meetings -/
def okL (t : Tp) (p : Int32) : Prop := ¬ p < nI 1 ∧ ¬ nI 60 < p ∧ t.1 % 2 = 0 ∧ ∀ i, 2 * i + 1 < t.1 → t.2 (2 * i) < p.toNatClampNeg ∧ t.2 (2 * i + 1) < p.toNatClampNeg ∧ t.2 (2 * i) ≠ t.2 (2 * i + 1)
def lsN (t : Tp) : Nat → Nat → Nat
  | 0 => fun _ => 0
  | n + 1 => jn (lsN t n) (t.2 (2 * n)) (t.2 (2 * n + 1))
def lsT2 (t : Tp) (p : Int32) : Ls := (p.toNatClampNeg, lsN t (t.1 / 2))
noncomputable def aList (t : Tp) (p : Int32) : Rs := cif (okL t p) (rI (nI (lsPr (lsT2 t p)))) (.inr XA)
noncomputable def aListed (l : Ls) (q : Int32) : Rs := cif (¬ q < 0 ∧ q ≤ nI 4) (rI (if q = 0 then iB (lsC l ∧ lsA l) else if q = nI 1 then iB (lsC l) else if q = nI 2 then cif (lsC l) (nI (lsG l)) (-1) else if q = nI 3 then nI (lsPr l) else nI l.1)) (.inr XN)
theorem okL_c {t : Tp} {p : Int32} (h : ¬ p < nI 1 ∧ ¬ nI 60 < p) : ∃ n, 1 ≤ n ∧ n ≤ 60 ∧ p = nI n := by
  rcases i32c p with z | ⟨n, hn, rfl⟩
  · refine absurd ?_ h.1
    rw [Int32.lt_iff_toInt_lt] at z ⊢
    rw [nI_toInt (by omega)]
    have : (0 : Int32).toInt = 0 := rfl
    omega
  · rw [m_lt hn (by omega), m_lt (by omega) hn] at h
    exact ⟨n, by omega, by omega, rfl⟩
theorem lsN_ok {t : Tp} {n G : Nat} (hG : G ≤ 60) : ∀ {k : Nat}, (∀ i, i < k → t.2 (2 * i) < G ∧ t.2 (2 * i + 1) < G ∧ t.2 (2 * i) ≠ t.2 (2 * i + 1)) → lsI (G, lsN t k)
  | 0, _ => ⟨hG, fun i j e => by simp [lsN, Eo] at e, fun i j e => by simp [lsN, Eo] at e, fun i => by show (0 : Nat) < _; omega⟩
  | k + 1, h => by
    obtain ⟨h1, h2, h3, h4⟩ := lsN_ok (n := n) hG (k := k) (fun i hi => h i (by omega))
    obtain ⟨a1, a2, a3⟩ := h k (by omega)
    refine ⟨hG, jn_gm h2 (by omega) (by omega) a3, fun i j e => ?_, jn_lt (n := 60) h4 (by omega) (by omega)⟩
    rcases (jn_eo a3).mp e with q | ⟨rfl, rfl⟩ | ⟨rfl, rfl⟩
    · exact h3 i j q
    · exact ⟨a1, a2⟩
    · exact ⟨a2, a1⟩
theorem sumN_at {f f' : Nat → Nat} {w : Nat} (h : ∀ v, v ≠ w → f' v = f v) : ∀ {n : Nat}, w < n → sumN f' n + f w = sumN f n + f' w
  | 0, hw => by omega
  | n + 1, hw => by
    show sumN f' n + f' n + f w = sumN f n + f n + f' w
    by_cases e : w = n
    · subst e
      have : sumN f' w = sumN f w := sumN_eq (fun v hv => h v (by omega))
      omega
    · have := sumN_at h (n := n) (by omega)
      have := h n (fun z => e z.symm)
      omega
theorem cnt_or1 {S b : Nat} (hb : b < 64) (h : ¬ S.testBit b = true) : cnt (S ||| 2 ^ b) = cnt S + 1 := by
  rw [cnt_sz, cnt_sz]
  exact gSz_add (P := Bs S) (w := b) h (fun v => by
    show (S ||| 2 ^ b).testBit v = true ↔ _
    rw [or_bitT]
    exact ⟨fun q => q.imp id Eq.symm, fun q => q.imp id Eq.symm⟩) hb
theorem enD_new {M : Nat → Nat} {a b : Nat} (ha : a < 60) (hb : b < 60) (hab : a ≠ b) (h1 : ¬ Eo M a b) (h2 : ¬ Eo M b a) : enD (jn M a b) = enD M + 2 := by
  have e1 := sumN_at (f := fun v => cnt (M v)) (f' := fun v => cnt (if v = a then M a ||| 2 ^ b else M v)) (w := a) (fun v hv => by show cnt (if v = a then M a ||| 2 ^ b else M v) = _; rw [if_neg hv]) ha
  have e2 := sumN_at (f := fun v => cnt (if v = a then M a ||| 2 ^ b else M v)) (f' := fun v => cnt (jn M a b v)) (w := b) (fun v hv => by
    show cnt (jn M a b v) = cnt (if v = a then M a ||| 2 ^ b else M v)
    unfold jn
    by_cases q : v = a
    · rw [if_pos q, if_pos q]
    · rw [if_neg q, if_neg q, if_neg hv]) hb
  have c1 := cnt_or1 (S := M a) (b := b) (by omega) h1
  have c2 := cnt_or1 (S := M b) (b := a) (by omega) h2
  have d1 : cnt (if a = a then M a ||| 2 ^ b else M a) = cnt (M a) + 1 := by rw [if_pos rfl]; exact c1
  have d2 : cnt (if b = a then M a ||| 2 ^ b else M b) = cnt (M b) := by rw [if_neg (fun e => hab e.symm)]
  have d3 : cnt (jn M a b b) = cnt (M b) + 1 := by unfold jn; rw [if_neg (fun e => hab e.symm), if_pos rfl]; exact c2
  have e1' : sumN (fun v => cnt (if v = a then M a ||| 2 ^ b else M v)) 60 + cnt (M a) = sumN (fun v => cnt (M v)) 60 + (cnt (M a) + 1) := by rw [← d1]; exact e1
  have e2' : sumN (fun v => cnt (jn M a b v)) 60 + cnt (M b) = sumN (fun v => cnt (if v = a then M a ||| 2 ^ b else M v)) 60 + (cnt (M b) + 1) := by
    have e2 : sumN (fun v => cnt (jn M a b v)) 60 + cnt (if b = a then M a ||| 2 ^ b else M b) = sumN (fun v => cnt (if v = a then M a ||| 2 ^ b else M v)) 60 + cnt (jn M a b b) := e2
    rw [d2, d3] at e2; exact e2
  show sumN (fun v => cnt (jn M a b v)) 60 = sumN (fun v => cnt (M v)) 60 + 2
  omega
theorem enD_old {M : Nat → Nat} {a b : Nat} (hab : a ≠ b) (h1 : Eo M a b) (h2 : Eo M b a) : jn M a b = M := by
  funext i
  have key : ∀ S c, S.testBit c = true → S ||| 2 ^ c = S := fun S c h => Nat.eq_of_testBit_eq fun t => by
    rw [Nat.testBit_or, Nat.testBit_two_pow]
    by_cases e : c = t
    · subst e; rw [h]; rfl
    · rw [decide_eq_false e, Bool.or_false]
  unfold jn
  by_cases q : i = a
  · rw [if_pos q, q]; exact key _ _ h1
  · rw [if_neg q]
    by_cases q2 : i = b
    · rw [if_pos q2, q2]; exact key _ _ h2
    · rw [if_neg q2]
theorem sby_255 : ∀ t : Nat, t < 256 → sby t &&& nI 255 = nI t := by decide +kernel
section Lst8
variable {CK S1 S2 : HX → St → Prop} {X X' : HX} {Y Y' : HY} {s : St} {Q : Qt}
theorem Qw.up10 (h : Qw CK S1 S2 X Y s) (bv : BV 9 X' s) (e9 : Y' 9 = Y 9) (e : ∀ c, 10 ≤ c → c < 79 → (c < 17 ∨ (24 < c ∧ c < 57) ∨ 64 < c) → X' c = X c ∧ Y' c = Y c) : Qw CK S1 S2 X' Y' s := by
  obtain ⟨⟨hC, h1, h2⟩, q1, q2, q3, q4, q5, q6, q7, q8, q9, q10, q11⟩ := h
  have ex : ∀ c, 10 ≤ c → c < 79 → (c < 17 ∨ (24 < c ∧ c < 57) ∨ 64 < c) → X' c = X c := fun c hc hd hf => (e c hc hd hf).1
  have ey : ∀ c, 10 ≤ c → c < 79 → (c < 17 ∨ (24 < c ∧ c < 57) ∨ 64 < c) → Y' c = Y c := fun c hc hd hf => (e c hc hd hf).2
  have xx : ∀ c i, 10 ≤ c → c < 79 → (c < 17 ∨ (24 < c ∧ c < 57) ∨ 64 < c) → X' c i = X c i := fun c i hc hd hf => by rw [ex c hc hd hf]
  refine ⟨⟨hC, h1, h2⟩, q1, bv, by rw [e9]; exact q3, ⟨by rw [xx 33 2 (by omega) (by omega) (by omega)]; exact q4.1, by rw [xx 37 2 (by omega) (by omega) (by omega)]; exact q4.2⟩, ?_, ?_, ?_, ?_, ?_, ?_, ?_⟩
  · intro k hk
    have : sb S41 X' 4 = sb S41 X 4 := ex 45 (by omega) (by omega) (by omega)
    rw [this]; exact q5 k hk
  · exact q6.mono (xx _ _ (by omega) (by omega) (by omega)) (fun z => z.of (xx _ _ (by omega) (by omega) (by omega)) (ex _ (by omega) (by omega) (by omega)) (ex _ (by omega) (by omega) (by omega)) (ex _ (by omega) (by omega) (by omega)) (ey _ (by omega) (by omega) (by omega)))
  · exact q7.mono (xx _ _ (by omega) (by omega) (by omega)) (fun z => ⟨by rw [xx 25 3 (by omega) (by omega) (by omega)]; exact z.1, z.2.of (xx _ _ (by omega) (by omega) (by omega)) (fun c z1 z2 => ex c (by omega) (by omega) (by omega))⟩)
  · exact q8.mono (xx _ _ (by omega) (by omega) (by omega)) (fun z => ⟨by rw [xx 41 4 (by omega) (by omega) (by omega)]; exact z.1, z.2.of (xx _ _ (by omega) (by omega) (by omega)) (fun c z1 z2 => ex c (by omega) (by omega) (by omega))⟩)
  · exact q9.mono (xx _ _ (by omega) (by omega) (by omega)) (fun z => ⟨by rw [xx 41 4 (by omega) (by omega) (by omega)]; exact z.1, hC X X' s (fun c z1 z2 => ex c (by omega) (by omega) (by omega)) z.2⟩)
  · exact q10.mono (xx _ _ (by omega) (by omega) (by omega)) (fun z => h1 X X' s (fun c z1 z2 => ex c (by omega) (by omega) (by omega)) z)
  · exact q11.mono (xx _ _ (by omega) (by omega) (by omega)) (fun z => h2 X X' s (fun c z1 z2 => ex c (by omega) (by omega) (by omega)) z)

theorem Q8_at {b : Bool} {t : Tp} {i : Nat} (ht : TV8 X t) (hi : i < t.1) {C : Int32 → HX → HY → Prop} (k : ∀ X' Y', Eq8 b X X' Y Y' → C (nI (t.2 i)) X' Y') : tX7_at [.ref 0, .int (nI i)] (LX7 ++ []) (sb [1, 2] X) (sb [1, 2] Y) (cS1 (LX7 ++ []) (LX8 b) [1, 2] (LX8 b).length X Y Q C) := by
  obtain ⟨t4, t1, t2⟩ := ht
  obtain ⟨e1, e2⟩ := t2 i hi
  apply tX7_at_i
  have c1 : sb [1, 2] X 0 1 = nI t.1 := t1
  have c2 : sb [1, 2] X 1 i = sby (t.2 i) := e1
  rw [c1, m_clamp (by omega), c2, sby_255 _ e2, m_le (by omega) (by omega)]
  exact ⟨fun q => absurd q (nI_nn (by omega)), fun _ => ⟨fun q => absurd q (by omega), fun _ => ⟨(m_in (by omega)).mpr (by omega), cS1_mk (k _ _ (Eq8.mg [1, 2]))⟩⟩⟩
/-- what list does behind the crowd's making -/
def lsB (Q : Qt) (p1 : Int32) (X : HX) (Y : HY) : Prop := tX8_readList [.ref 0, .int p1, .ref 79] (LX8 true) X Y (cK1 (LX8 true) Q (fun x1 X1 Y1 => (¬ x1 = 0 → tX4_isRingless [.ref 0, .long (((lN 1) <<< (p1.toInt64 &&& 63)) - (lN 1))] (LX4 60 ++ []) (sb [79, 80, 81, 82] (up2 X1 1 1 (nI 0))) (sb [79, 80, 81, 82] Y1) (cS1 (LX4 60 ++ []) (LX8 true) [79, 80, 81, 82] (LX8 true).length (up2 X1 1 1 (nI 0)) Y1 Q (fun x3 X3 Y3 => (x3 = 0 → (x3 = 0 → (x3 = 0 → tX4_pairsMet [.ref 0] (LX4 60 ++ []) (sb [79, 80, 81, 82] (up2 (up2 (up2 X3 9 11 (nI 0)) 9 12 (-1)) 9 10 (nI 0))) (sb [79, 80, 81, 82] Y3) (cS1 (LX4 60 ++ []) (LX8 true) [79, 80, 81, 82] (LX8 true).length (up2 (up2 (up2 X3 9 11 (nI 0)) 9 12 (-1)) 9 10 (nI 0)) Y3 Q (fun x7 X7 Y7 => Q (.inl (some (.int ((up2 (up2 X7 9 13 x7) 9 14 p1) 9 13)))) (LX8 true) (up2 (up2 X7 9 13 x7) 9 14 p1) Y7))) ∧ (¬ (x3 = 0) → tX4_findThree [.ref 0, .long (((lN 1) <<< (p1.toInt64 &&& 63)) - (lN 1))] (LX4 60 ++ []) (sb [79, 80, 81, 82] (up2 (up2 X3 9 11 (nI 0)) 9 12 (-1))) (sb [79, 80, 81, 82] Y3) (cS1 (LX4 60 ++ []) (LX8 true) [79, 80, 81, 82] (LX8 true).length (up2 (up2 X3 9 11 (nI 0)) 9 12 (-1)) Y3 Q (fun x8 X8 Y8 => (¬ x8 = (-1) → tX4_pairsMet [.ref 0] (LX4 60 ++ []) (sb [79, 80, 81, 82] (up2 X8 9 10 (nI 0))) (sb [79, 80, 81, 82] Y8) (cS1 (LX4 60 ++ []) (LX8 true) [79, 80, 81, 82] (LX8 true).length (up2 X8 9 10 (nI 0)) Y8 Q (fun x10 X10 Y10 => Q (.inl (some (.int ((up2 (up2 X10 9 13 x10) 9 14 p1) 9 13)))) (LX8 true) (up2 (up2 X10 9 13 x10) 9 14 p1) Y10))) ∧ (¬ (¬ x8 = (-1)) → tX4_pairsMet [.ref 0] (LX4 60 ++ []) (sb [79, 80, 81, 82] (up2 X8 9 10 (nI 1))) (sb [79, 80, 81, 82] Y8) (cS1 (LX4 60 ++ []) (LX8 true) [79, 80, 81, 82] (LX8 true).length (up2 X8 9 10 (nI 1)) Y8 Q (fun x11 X11 Y11 => Q (.inl (some (.int ((up2 (up2 X11 9 13 x11) 9 14 p1) 9 13)))) (LX8 true) (up2 (up2 X11 9 13 x11) 9 14 p1) Y11))))))) ∧ (¬ (x3 = 0) → (x3 = 0 → tX4_pairsMet [.ref 0] (LX4 60 ++ []) (sb [79, 80, 81, 82] (up2 (up2 (up2 X3 9 11 (nI 0)) 9 12 ((up2 X3 9 11 (nI 0)) 79 1)) 9 10 (nI 0))) (sb [79, 80, 81, 82] Y3) (cS1 (LX4 60 ++ []) (LX8 true) [79, 80, 81, 82] (LX8 true).length (up2 (up2 (up2 X3 9 11 (nI 0)) 9 12 ((up2 X3 9 11 (nI 0)) 79 1)) 9 10 (nI 0)) Y3 Q (fun x13 X13 Y13 => Q (.inl (some (.int ((up2 (up2 X13 9 13 x13) 9 14 p1) 9 13)))) (LX8 true) (up2 (up2 X13 9 13 x13) 9 14 p1) Y13))) ∧ (¬ (x3 = 0) → tX4_findThree [.ref 0, .long (((lN 1) <<< (p1.toInt64 &&& 63)) - (lN 1))] (LX4 60 ++ []) (sb [79, 80, 81, 82] (up2 (up2 X3 9 11 (nI 0)) 9 12 ((up2 X3 9 11 (nI 0)) 79 1))) (sb [79, 80, 81, 82] Y3) (cS1 (LX4 60 ++ []) (LX8 true) [79, 80, 81, 82] (LX8 true).length (up2 (up2 X3 9 11 (nI 0)) 9 12 ((up2 X3 9 11 (nI 0)) 79 1)) Y3 Q (fun x14 X14 Y14 => (¬ x14 = (-1) → tX4_pairsMet [.ref 0] (LX4 60 ++ []) (sb [79, 80, 81, 82] (up2 X14 9 10 (nI 0))) (sb [79, 80, 81, 82] Y14) (cS1 (LX4 60 ++ []) (LX8 true) [79, 80, 81, 82] (LX8 true).length (up2 X14 9 10 (nI 0)) Y14 Q (fun x16 X16 Y16 => Q (.inl (some (.int ((up2 (up2 X16 9 13 x16) 9 14 p1) 9 13)))) (LX8 true) (up2 (up2 X16 9 13 x16) 9 14 p1) Y16))) ∧ (¬ (¬ x14 = (-1)) → tX4_pairsMet [.ref 0] (LX4 60 ++ []) (sb [79, 80, 81, 82] (up2 X14 9 10 (nI 1))) (sb [79, 80, 81, 82] Y14) (cS1 (LX4 60 ++ []) (LX8 true) [79, 80, 81, 82] (LX8 true).length (up2 X14 9 10 (nI 1)) Y14 Q (fun x17 X17 Y17 => Q (.inl (some (.int ((up2 (up2 X17 9 13 x17) 9 14 p1) 9 13)))) (LX8 true) (up2 (up2 X17 9 13 x17) 9 14 p1) Y17)))))))) ∧ (¬ (x3 = 0) → (x3 = 0 → (x3 = 0 → tX4_pairsMet [.ref 0] (LX4 60 ++ []) (sb [79, 80, 81, 82] (up2 (up2 (up2 X3 9 11 (nI 1)) 9 12 (-1)) 9 10 (nI 0))) (sb [79, 80, 81, 82] Y3) (cS1 (LX4 60 ++ []) (LX8 true) [79, 80, 81, 82] (LX8 true).length (up2 (up2 (up2 X3 9 11 (nI 1)) 9 12 (-1)) 9 10 (nI 0)) Y3 Q (fun x20 X20 Y20 => Q (.inl (some (.int ((up2 (up2 X20 9 13 x20) 9 14 p1) 9 13)))) (LX8 true) (up2 (up2 X20 9 13 x20) 9 14 p1) Y20))) ∧ (¬ (x3 = 0) → tX4_findThree [.ref 0, .long (((lN 1) <<< (p1.toInt64 &&& 63)) - (lN 1))] (LX4 60 ++ []) (sb [79, 80, 81, 82] (up2 (up2 X3 9 11 (nI 1)) 9 12 (-1))) (sb [79, 80, 81, 82] Y3) (cS1 (LX4 60 ++ []) (LX8 true) [79, 80, 81, 82] (LX8 true).length (up2 (up2 X3 9 11 (nI 1)) 9 12 (-1)) Y3 Q (fun x21 X21 Y21 => (¬ x21 = (-1) → tX4_pairsMet [.ref 0] (LX4 60 ++ []) (sb [79, 80, 81, 82] (up2 X21 9 10 (nI 0))) (sb [79, 80, 81, 82] Y21) (cS1 (LX4 60 ++ []) (LX8 true) [79, 80, 81, 82] (LX8 true).length (up2 X21 9 10 (nI 0)) Y21 Q (fun x23 X23 Y23 => Q (.inl (some (.int ((up2 (up2 X23 9 13 x23) 9 14 p1) 9 13)))) (LX8 true) (up2 (up2 X23 9 13 x23) 9 14 p1) Y23))) ∧ (¬ (¬ x21 = (-1)) → tX4_pairsMet [.ref 0] (LX4 60 ++ []) (sb [79, 80, 81, 82] (up2 X21 9 10 (nI 1))) (sb [79, 80, 81, 82] Y21) (cS1 (LX4 60 ++ []) (LX8 true) [79, 80, 81, 82] (LX8 true).length (up2 X21 9 10 (nI 1)) Y21 Q (fun x24 X24 Y24 => Q (.inl (some (.int ((up2 (up2 X24 9 13 x24) 9 14 p1) 9 13)))) (LX8 true) (up2 (up2 X24 9 13 x24) 9 14 p1) Y24))))))) ∧ (¬ (x3 = 0) → (x3 = 0 → tX4_pairsMet [.ref 0] (LX4 60 ++ []) (sb [79, 80, 81, 82] (up2 (up2 (up2 X3 9 11 (nI 1)) 9 12 ((up2 X3 9 11 (nI 1)) 79 1)) 9 10 (nI 0))) (sb [79, 80, 81, 82] Y3) (cS1 (LX4 60 ++ []) (LX8 true) [79, 80, 81, 82] (LX8 true).length (up2 (up2 (up2 X3 9 11 (nI 1)) 9 12 ((up2 X3 9 11 (nI 1)) 79 1)) 9 10 (nI 0)) Y3 Q (fun x26 X26 Y26 => Q (.inl (some (.int ((up2 (up2 X26 9 13 x26) 9 14 p1) 9 13)))) (LX8 true) (up2 (up2 X26 9 13 x26) 9 14 p1) Y26))) ∧ (¬ (x3 = 0) → tX4_findThree [.ref 0, .long (((lN 1) <<< (p1.toInt64 &&& 63)) - (lN 1))] (LX4 60 ++ []) (sb [79, 80, 81, 82] (up2 (up2 X3 9 11 (nI 1)) 9 12 ((up2 X3 9 11 (nI 1)) 79 1))) (sb [79, 80, 81, 82] Y3) (cS1 (LX4 60 ++ []) (LX8 true) [79, 80, 81, 82] (LX8 true).length (up2 (up2 X3 9 11 (nI 1)) 9 12 ((up2 X3 9 11 (nI 1)) 79 1)) Y3 Q (fun x27 X27 Y27 => (¬ x27 = (-1) → tX4_pairsMet [.ref 0] (LX4 60 ++ []) (sb [79, 80, 81, 82] (up2 X27 9 10 (nI 0))) (sb [79, 80, 81, 82] Y27) (cS1 (LX4 60 ++ []) (LX8 true) [79, 80, 81, 82] (LX8 true).length (up2 X27 9 10 (nI 0)) Y27 Q (fun x29 X29 Y29 => Q (.inl (some (.int ((up2 (up2 X29 9 13 x29) 9 14 p1) 9 13)))) (LX8 true) (up2 (up2 X29 9 13 x29) 9 14 p1) Y29))) ∧ (¬ (¬ x27 = (-1)) → tX4_pairsMet [.ref 0] (LX4 60 ++ []) (sb [79, 80, 81, 82] (up2 X27 9 10 (nI 1))) (sb [79, 80, 81, 82] Y27) (cS1 (LX4 60 ++ []) (LX8 true) [79, 80, 81, 82] (LX8 true).length (up2 X27 9 10 (nI 1)) Y27 Q (fun x30 X30 Y30 => Q (.inl (some (.int ((up2 (up2 X30 9 13 x30) 9 14 p1) 9 13)))) (LX8 true) (up2 (up2 X30 9 13 x30) 9 14 p1) Y30))))))))))) ∧ (¬ (¬ x1 = 0) → Q (.inr "java/lang/IllegalArgumentException") (LX8 true) (up2 X1 1 1 (nI 0)) Y1)))
theorem nC83 : nC8 true = 83 := by decide
theorem TV8.eq {X X' : HX} {t : Tp} (h : TV8 X t) (e1 : X' 1 1 = X 1 1) (e2 : X' 2 = X 2) : TV8 X' t := by
  unfold TV8 at h ⊢
  rw [e1, e2]; exact h
/-- what was told is read, or it is wrong -/
theorem X8_readList_s {t : Tp} {p : Int32} (ht : TV8 X t) (h60 : X 79 2 = nI 60) (k : ∀ X' Y' (z : Bool), (∀ c, c < 83 → X' c = X c) → (∀ c, c < 83 → c ≠ 80 → Y' c = Y c) → (z = true ↔ okL t p) → (z = true → ∀ i, i < 60 → Y' 80 i = lN ((lsT2 t p).2 i)) → Q (.inl (some (.int (nI z.toNat)))) (LX8 true) X' Y') : tX8_readList [.ref 0, .int p, .ref 79] (LX8 true) X Y Q := by
  have n83 := nC83
  have ln : (LX8 true).length = 83 := by decide
  obtain ⟨t4, t1, t2⟩ := id ht
  apply tX8_readList_i
  have bad : ∀ X' Y', (∀ c, c < 83 → X' c = X c) → (∀ c, c < 83 → c ≠ 80 → Y' c = Y c) → ¬ okL t p → Q (.inl (some (.int (nI 0)))) (LX8 true) X' Y' := fun X' Y' f g hn => k X' Y' false f g ⟨fun e => (by cases e), fun y => absurd y hn⟩ (fun e => by cases e)
  refine ⟨fun q => ⟨(by first | exact Or.inl rfl | exact Or.inr rfl | exact Or.inl trivial | exact Or.inr trivial), bad X Y (fun _ _ => rfl) (fun _ _ _ => rfl) (fun y => y.1 q)⟩, fun q1 => ⟨fun q => ⟨(by first | exact Or.inl rfl | exact Or.inr rfl | exact Or.inl trivial | exact Or.inr trivial), bad X Y (fun _ _ => rfl) (fun _ _ _ => rfl) (fun y => y.2.1 q)⟩, fun q2 => ⟨by decide, ?_⟩⟩⟩
  obtain ⟨n, n1, n60, rfl⟩ := okL_c (t := t) ⟨q1, q2⟩
  have cn : (nI n).toNatClampNeg = n := m_clamp (by omega)
  rw [t1, pk_rem (by omega) (by omega) (by omega)]
  have ei : nI (t.1 % 2) = 0 ↔ t.1 % 2 = 0 := m_eq (a := t.1 % 2) (b := 0) (by omega) (by omega)
  rw [ei]
  refine ⟨fun ev => ?_, fun od => ⟨(by first | exact Or.inl rfl | exact Or.inr rfl | exact Or.inl trivial | exact Or.inr trivial), bad X Y (fun _ _ => rfl) (fun _ _ _ => rfl) (fun y => od y.2.2.1)⟩⟩
  refine X4_clear_s (by omega) h60 (fun Y1 f1 z1 => cS0_mk ?_)
  have fa : ∀ c, c < 83 → mg [79, 80, 81, 82] (LX8 true).length X (sb [79, 80, 81, 82] X) c = X c := fun c hc => mg_sb (by omega)
  have ya : ∀ c, c < 83 → c ≠ 80 → mg [79, 80, 81, 82] (LX8 true).length Y Y1 c = Y c := fun c hc hd => mg_fr (ch := [1]) (fun i _ hi => f1 i (fun e => hi (by simp [e]))) (by omega) (by simpa using hd)
  have y80 : mg [79, 80, 81, 82] (LX8 true).length Y Y1 80 = Y1 1 := mg_in 1 (by omega) rfl rfl
  have H : ∀ m i X2 Y2, i + m = t.1 / 2 → (∀ c, c < 83 → X2 c = X c) → (∀ c, c < 83 → c ≠ 80 → Y2 c = Y c) → (∀ v, v < 60 → Y2 80 v = lN (lsN t i v)) → (∀ j, j < i → t.2 (2 * j) < n ∧ t.2 (2 * j + 1) < n ∧ t.2 (2 * j) ≠ t.2 (2 * j + 1)) → hX8_readList_31 Q (nI n) (nI (2 * i)) X2 Y2 := by
    intro m
    induction m with
    | zero =>
      intro i X2 Y2 hi f g r ok
      have e1 : X2 1 1 = nI t.1 := by rw [f 1 (by omega)]; exact t1
      apply hX8_readList_31_i
      rw [e1, m_add, m_le (by omega) (by omega)]
      refine ⟨fun _ => ⟨(by first | exact Or.inl rfl | exact Or.inr rfl | exact Or.inl trivial | exact Or.inr trivial), k X2 Y2 true f g ⟨fun _ => ⟨q1, q2, ev, fun j hj => by rw [cn]; exact ok j (by omega)⟩, fun _ => rfl⟩ (fun _ v hv => ?_)⟩, fun q => absurd (by omega) q⟩
      have : (lsT2 t (nI n)).2 v = lsN t i v := by show lsN t (t.1 / 2) v = _; rw [← hi, Nat.add_zero]
      rw [this]; exact r v hv
    | succ m ih =>
      intro i X2 Y2 hi f g r ok
      have e1 : X2 1 1 = nI t.1 := by rw [f 1 (by omega)]; exact t1
      have tv2 : TV8 X2 t := ht.eq (by rw [f 1 (by omega)]) (f 2 (by omega))
      apply hX8_readList_31_i
      rw [e1, m_add (2 * i) 1, m_le (by omega) (by omega), m_add (2 * i) 2]
      refine ⟨fun q => absurd q (by omega), fun _ => ?_⟩
      refine Q8_at (b := true) tv2 (by omega) (fun X3 Y3 q3 => Q8_at (b := true) (tv2.eq (by rw [(q3 1 (by omega)).1]) (q3 2 (by omega)).1) (by omega) (fun X4 Y4 q4 => ?_))
      have f4 : ∀ c, c < 83 → X4 c = X c := fun c hc => ((q4 c (by omega)).1.trans (q3 c (by omega)).1).trans (f c hc)
      have g4 : ∀ c, c < 83 → c ≠ 80 → Y4 c = Y c := fun c hc hd => ((q4 c (by omega)).2.trans (q3 c (by omega)).2).trans (g c hc hd)
      have r4 : ∀ v, v < 60 → Y4 80 v = lN (lsN t i v) := fun v hv => by rw [(q4 80 (by omega)).2, (q3 80 (by omega)).2]; exact r v hv
      have b1 := (t2 (2 * i) (by omega)).2
      have b2 := (t2 (2 * i + 1) (by omega)).2
      rw [m_le (by omega) (by omega), m_le (by omega) (by omega), m_eq (by omega) (by omega)]
      have no : ∀ (P : Prop), (okL t (nI n) → P) → ¬ P → Q (.inl (some (.int (nI 0)))) (LX8 true) X4 Y4 := fun P h1 h2 => bad X4 Y4 f4 g4 (fun y => h2 (h1 y))
      refine ⟨fun q => ⟨(by first | exact Or.inl rfl | exact Or.inr rfl | exact Or.inl trivial | exact Or.inr trivial), no _ (fun y => by have := (y.2.2.2 i (by omega)).1; rw [cn] at this; exact this) (by omega)⟩, fun w1 => ⟨fun q => ⟨(by first | exact Or.inl rfl | exact Or.inr rfl | exact Or.inl trivial | exact Or.inr trivial), no _ (fun y => by have := (y.2.2.2 i (by omega)).2.1; rw [cn] at this; exact this) (by omega)⟩, fun w2 => ⟨fun w3 => ?_, fun q => ⟨(by first | exact Or.inl rfl | exact Or.inr rfl | exact Or.inl trivial | exact Or.inr trivial), no _ (fun y => (y.2.2.2 i (by omega)).2.2) (fun z => q z)⟩⟩⟩⟩
      refine X4_join_s (M := lsN t i) (by omega) (by show X4 79 2 = _; rw [f4 79 (by omega)]; exact h60) (fun v hv => r4 v hv) (by omega) (by omega) w3 (fun Y5 f5 m5 => cS0_mk ?_)
      refine ih (i + 1) _ _ (by omega) (fun c hc => (mg_sb (by omega)).trans (f4 c hc)) (fun c hc hd => (mg_fr (ch := [1]) (fun i _ hi => f5 i (fun e => hi (by simp [e]))) (by omega) (by simpa using hd)).trans (g4 c hc hd)) (fun v hv => ?_) (fun j hj => ?_)
      · rw [show mg [79, 80, 81, 82] (LX8 true).length Y4 Y5 80 = Y5 1 from mg_in 1 (by omega) rfl rfl]
        exact m5 v hv
      · by_cases e : j = i
        · subst e; exact ⟨by omega, by omega, w3⟩
        · exact ok j (by omega)
  exact H (t.1 / 2) 0 _ _ (by omega) fa ya (fun v hv => by rw [y80]; exact z1 v hv) (fun j hj => by omega)
theorem X4_pairs_s {r : Ly} {M : Nat → Nat} (h60 : X 0 2 = nI 60) (hM : ∀ i, i < 60 → Y 1 i = lN (M i) ∧ M i < 1152921504606846976) (k : Q (.inl (some (.int (nI (enD M / 2))))) (LX4 60 ++ r) X Y) : tX4_pairsMet [.ref 0] (LX4 60 ++ r) X Y Q := by
  apply tX4_pairsMet_i
  have H : ∀ n i, i + n = 60 → hX4_pairsMet_4 Q 60 r (nI (sumN (fun v => cnt (M v)) i)) (nI i) X Y := by
    intro n
    induction n with
    | zero =>
      intro i hi
      have e : i = 60 := by omega
      subst e
      have b : sumN (fun v => cnt (M v)) 60 ≤ 60 * 64 := sumN_bd (fun v _ => cnt_le (M v))
      apply hX4_pairsMet_4_i
      rw [h60, m_le (by omega) (by omega), m_div (by omega) (by omega) (by omega)]
      exact ⟨fun _ => ⟨by decide, k⟩, fun q => absurd (by omega) q⟩
    | succ n ih =>
      intro i hi
      apply hX4_pairsMet_4_i
      rw [h60, m_le (by omega) (by omega), m_clamp (by omega), (hM i (by omega)).1]
      have hm := (hM i (by omega)).2
      refine ⟨fun q => absurd q (by omega), fun _ => ⟨(m_in (by omega)).mpr (by omega), bc64 (by omega) (cK1_mk ?_)⟩⟩
      rw [m_add, m_add]
      exact ih (i + 1) (by omega)
  exact H 60 0 (by omega)
end Lst8
