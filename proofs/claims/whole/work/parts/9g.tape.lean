/-! the TAPE: feed, end, fault -/
def bytA (v : Int32) (w : Nat) : Nat := v.toBitVec.toNat / 2 ^ w % 256
def sby (t : Nat) : Int32 := (nI t).toInt8.toInt32
theorem bytA_lt (v : Int32) (w : Nat) : bytA v w < 256 := Nat.mod_lt _ (by omega)
theorem bytA_bit {v : Int32} {w i : Nat} (hi : i < 8) : (bytA v w).testBit i = v.toBitVec.getLsbD (i + w) := by
  unfold bytA
  rw [show (256 : Nat) = 2 ^ 8 from rfl, Nat.testBit_mod_two_pow, ← Nat.shiftRight_eq_div_pow, Nat.testBit_shiftRight, BitVec.testBit_toNat, decide_eq_true hi, Bool.true_and, Nat.add_comm]
theorem byt_i8 {v : Int32} {w : Nat} (hw : w ≤ 24) : (v >>> nI w).toInt8 = (nI (bytA v w)).toInt8 := by
  apply Int8.toBitVec_inj.mp
  apply BitVec.eq_of_getLsbD_eq
  intro i hi
  have e : (nI w).toBitVec.toNat = w := by simp [nI]; omega
  have e2 : (nI w).toBitVec.smod 32 = BitVec.ofNat 32 w := by
    have : ∀ w : Nat, w < 25 → (nI w).toBitVec.smod 32 = BitVec.ofNat 32 w := by decide
    exact this w (by omega)
  have e3 : (BitVec.ofNat 32 w).toNat = w := by simp; omega
  simp only [Int32.toBitVec_toInt8, Int32.toBitVec_shiftRight, BitVec.getLsbD_signExtend, BitVec.getLsbD_setWidth, hi, e2, BitVec.sshiftRight', e3, BitVec.getLsbD_sshiftRight]
  have h1 : i < 32 := by omega
  have h2 : ¬ 32 ≤ i := by omega
  have h3 : w + i < 32 := by omega
  have h4 : (nI (bytA v w)).toBitVec.getLsbD i = (bytA v w).testBit i := by
    show (BitVec.ofNat 32 (bytA v w)).getLsbD i = _
    rw [BitVec.getLsbD_ofNat, decide_eq_true h1, Bool.true_and]
  simp only [h1, if_true, h2, decide_false, Bool.not_false, Bool.true_and, h3, decide_true, h4, bytA_bit hi, Nat.add_comm]
theorem byt_m {v : Int32} {w : Nat} (hw : w ≤ 24) : (v.toUInt32 >>> ((nI w).toUInt32 &&& Int32.toUInt32 31)).toInt32 &&& nI 255 = nI (bytA v w) := by
  apply Int32.toBitVec_inj.mp
  apply BitVec.eq_of_getLsbD_eq
  intro i hi
  have e : (nI w).toBitVec.toNat = w := by simp [nI]; omega
  have e2 : (w &&& 31) % 32 = w := by
    have : ∀ w : Nat, w < 25 → (w &&& 31) % 32 = w := by decide
    exact this w (by omega)
  have h4 : (nI (bytA v w)).toBitVec.getLsbD i = (bytA v w).testBit i := by
    show (BitVec.ofNat 32 (bytA v w)).getLsbD i = _
    rw [BitVec.getLsbD_ofNat, decide_eq_true hi, Bool.true_and]
  have h5 : (nI 255).toBitVec.getLsbD i = decide (i < 8) := by
    have : ∀ i : Nat, i < 32 → (nI 255).toBitVec.getLsbD i = decide (i < 8) := by decide
    exact this i hi
  simp only [Int32.toBitVec_and, UInt32.toBitVec_toInt32, UInt32.toBitVec_shiftRight, BitVec.getLsbD_and, h4, h5]
  simp [e, e2]
  by_cases q : i < 8
  · rw [bytA_bit q, Nat.add_comm]; simp [q]
  · have := Nat.testBit_lt_two_pow (i := i) (x := bytA v w) (Nat.lt_of_lt_of_le (bytA_lt v w) (Nat.pow_le_pow_right (n := 2) (show 0 < 2 by omega) (show 8 ≤ i by omega)))
    rw [this]; simp [q]
theorem nar_b (x : Int8) : vp_nar .byte x.toInt32 = x.toInt32 := by
  simp [vp_nar, narrow]
theorem and31 {w : Nat} (hw : w ≤ 24) : nI w &&& 31 = nI w := by
  have : ∀ w : Nat, w < 25 → nI w &&& 31 = nI w := by decide
  exact this w (by omega)
theorem byt_c {v : Int32} {w : Nat} (hw : w ≤ 24) : vp_nar .byte ((v >>> (nI w &&& 31)).toInt8.toInt32) = sby (bytA v w) := by
  rw [and31 hw, byt_i8 hw, nar_b]; rfl
theorem sh_20 : ∀ j : Nat, j < 20 → nI 24 - nI 8 * (nI j - nI j / nI 4 * nI 4) = nI (24 - 8 * (j % 4)) := by decide +kernel
theorem nwI {w : Nat} (hw : w < 2147483648) : ¬ nI w < 0 := nI_nn hw
abbrev Tp : Type := Nat × (Nat → Nat)
/-- the TAPE, by the class and by the reference -/
def TV8 (X : HX) (t : Tp) : Prop := t.1 ≤ 400 ∧ X 1 1 = nI t.1 ∧ ∀ i, i < t.1 → X 2 i = sby (t.2 i) ∧ t.2 i < 256
def TV9 (X : HX) (t : Tp) : Prop := t.1 ≤ 400 ∧ X 0 7 = nI t.1 ∧ ∀ i, i < t.1 → X 5 i = nI (t.2 i) ∧ t.2 i < 256
def wd5 (p1 p2 p3 p4 p5 : Int32) (k : Nat) : Int32 := if k = 0 then p1 else if k = 1 then p2 else if k = 2 then p3 else if k = 3 then p4 else p5
def feN (t : Tp) (p1 p2 p3 p4 p5 : Int32) (n : Nat) : Tp := (t.1 + n, fun i => if i < t.1 then t.2 i else bytA (wd5 p1 p2 p3 p4 p5 ((i - t.1) / 4)) (24 - 8 * ((i - t.1) % 4)))
/-- what the TAPE is behind feed -/
noncomputable def feT (t : Tp) (p1 p2 p3 p4 p5 : Int32) : Tp := if t.1 + 20 ≤ 400 then feN t p1 p2 p3 p4 p5 20 else t
noncomputable def aFeed (t : Tp) : Rs := rI (if t.1 + 20 ≤ 400 then nI (t.1 + 20) else -1)
/-- .. and behind end -/
noncomputable def enT (t : Tp) (p : Int32) : Tp := cif (¬ p < 0 ∧ p.toNatClampNeg ≤ t.1) (p.toNatClampNeg, t.2) t
noncomputable def aEnd (t : Tp) (p : Int32) : Rs := rI (iB (¬ p < 0 ∧ p.toNatClampNeg ≤ t.1))
/-- all but the TAPE stays -/
def KpT (b : Bool) (X X' : HX) (Y Y' : HY) : Prop := ∀ c, c < nC8 b → (c ≠ 1 ∧ c ≠ 2 → X' c = X c) ∧ Y' c = Y c
theorem KpT.rfl {b : Bool} {X : HX} {Y : HY} : KpT b X X Y Y := fun _ _ => ⟨fun _ => Eq.refl _, Eq.refl _⟩
theorem KpT.trans {b : Bool} {X X1 X2 : HX} {Y Y1 Y2 : HY} (h : KpT b X X1 Y Y1) (k : KpT b X1 X2 Y1 Y2) : KpT b X X2 Y Y2 := fun c hc => ⟨fun hd => ((k c hc).1 hd).trans ((h c hc).1 hd), (k c hc).2.trans (h c hc).2⟩
section Tape8
variable {CK S1 S2 : HX → St → Prop} {X X' : HX} {Y Y' : HY} {s : St} {b : Bool} {Q : Qt}
/-- what is known looks at no cell below 9 -/
theorem Qw.up9 (h : Qw CK S1 S2 X Y s) (e : ∀ c, 9 ≤ c → c < 79 → (c < 17 ∨ (24 < c ∧ c < 57) ∨ 64 < c) → X' c = X c ∧ Y' c = Y c) : Qw CK S1 S2 X' Y' s := by
  obtain ⟨⟨hC, h1, h2⟩, q1, q2, q3, q4, q5, q6, q7, q8, q9, q10, q11⟩ := h
  have ex : ∀ c, 9 ≤ c → c < 79 → (c < 17 ∨ (24 < c ∧ c < 57) ∨ 64 < c) → X' c = X c := fun c hc hd hf => (e c hc hd hf).1
  have ey : ∀ c, 9 ≤ c → c < 79 → (c < 17 ∨ (24 < c ∧ c < 57) ∨ 64 < c) → Y' c = Y c := fun c hc hd hf => (e c hc hd hf).2
  have xx : ∀ c i, 9 ≤ c → c < 79 → (c < 17 ∨ (24 < c ∧ c < 57) ∨ 64 < c) → X' c i = X c i := fun c i hc hd hf => by rw [ex c hc hd hf]
  refine ⟨⟨hC, h1, h2⟩, q1, q2.of (fun c z1 z2 => ex c (by omega) (by omega) (by omega)), by rw [ey 9 (by omega) (by omega) (by omega)]; exact q3, ⟨by rw [xx 33 2 (by omega) (by omega) (by omega)]; exact q4.1, by rw [xx 37 2 (by omega) (by omega) (by omega)]; exact q4.2⟩, ?_, ?_, ?_, ?_, ?_, ?_, ?_⟩
  · intro k hk
    have : sb S41 X' 4 = sb S41 X 4 := ex 45 (by omega) (by omega) (by omega)
    rw [this]; exact q5 k hk
  · exact q6.mono (xx _ _ (by omega) (by omega) (by omega)) (fun z => z.of (xx _ _ (by omega) (by omega) (by omega)) (ex _ (by omega) (by omega) (by omega)) (ex _ (by omega) (by omega) (by omega)) (ex _ (by omega) (by omega) (by omega)) (ey _ (by omega) (by omega) (by omega)))
  · exact q7.mono (xx _ _ (by omega) (by omega) (by omega)) (fun z => ⟨by rw [xx 25 3 (by omega) (by omega) (by omega)]; exact z.1, z.2.of (xx _ _ (by omega) (by omega) (by omega)) (fun c z1 z2 => ex c (by omega) (by omega) (by omega))⟩)
  · exact q8.mono (xx _ _ (by omega) (by omega) (by omega)) (fun z => ⟨by rw [xx 41 4 (by omega) (by omega) (by omega)]; exact z.1, z.2.of (xx _ _ (by omega) (by omega) (by omega)) (fun c z1 z2 => ex c (by omega) (by omega) (by omega))⟩)
  · exact q9.mono (xx _ _ (by omega) (by omega) (by omega)) (fun z => ⟨by rw [xx 41 4 (by omega) (by omega) (by omega)]; exact z.1, hC X X' s (fun c z1 z2 => ex c (by omega) (by omega) (by omega)) z.2⟩)
  · exact q10.mono (xx _ _ (by omega) (by omega) (by omega)) (fun z => h1 X X' s (fun c z1 z2 => ex c (by omega) (by omega) (by omega)) z)
  · exact q11.mono (xx _ _ (by omega) (by omega) (by omega)) (fun z => h2 X X' s (fun c z1 z2 => ex c (by omega) (by omega) (by omega)) z)
theorem Qw.tape (h : Qw CK S1 S2 X Y s) (e : KpT b X X' Y Y') : Qw CK S1 S2 X' Y' s := by
  have n79 := nC8_79 b
  exact h.up9 (fun c hc hd _ => ⟨(e c (by omega)).1 (by omega), (e c (by omega)).2⟩)
theorem put_step {r : Ly} {v : Int32} {n w : Nat} (hw : w ≤ 24) (hn : n < 400) (h : X 0 1 = nI n) (k : hX7_put_3 Q r v (nI w + (-8)) (up2 (up2 X 1 n (sby (bytA v w))) 0 1 (nI (n + 1))) Y) : hX7_put_3 Q r v (nI w) X Y := by
  apply hX7_put_3_i
  refine ⟨fun q => absurd q (nI_nn (by omega)), fun _ => ?_⟩
  have e : up2 X 1 n (sby (bytA v w)) 0 1 = nI n := by rw [up2_out (by omega)]; exact h
  rw [h, byt_c hw, m_clamp (by omega), e]
  simp (disch := omega) only [m_0, m_L0, m_lt, m_le, m_eq, m_neg, m_in, m_clamp, m_add, m_sub, m_pred, m_mul, m_l, m_i, m_Land, m_Lor, m_and, m_or, m_xor, m_Landn, m_andn, m_LshlP, m_shl, m_LbitP, m_bit, m_cmp0P, m_Lb0, m_Lb1, m_b0, m_b1, Nat.one_mul]
  exact ⟨fun q => by omega, fun _ => ⟨by omega, k⟩⟩
theorem X7_put_s {r : Ly} {v : Int32} {n : Nat} (hn : n + 4 ≤ 400) (h : X 0 1 = nI n) (k : ∀ X', (∀ c, c ≠ 0 → c ≠ 1 → X' c = X c) → (∀ i, i ≠ 1 → X' 0 i = X 0 i) → X' 0 1 = nI (n + 4) → (∀ i, i < n ∨ n + 4 ≤ i → X' 1 i = X 1 i) → (∀ j, j < 4 → X' 1 (n + j) = sby (bytA v (24 - 8 * j))) → Q (.inl none) (LX7 ++ r) X' Y) : tX7_put [.ref 0, .int v] (LX7 ++ r) X Y Q := by
  apply tX7_put_i
  refine put_step (n := n) (by omega) (by omega) h ?_
  rw [show nI 24 + (-8) = nI 16 from by decide]
  refine put_step (n := n + 1) (by omega) (by omega) up2_same ?_
  rw [show nI 16 + (-8) = nI 8 from by decide]
  refine put_step (n := n + 1 + 1) (by omega) (by omega) up2_same ?_
  rw [show nI 8 + (-8) = nI 0 from by decide]
  refine put_step (n := n + 1 + 1 + 1) (by omega) (by omega) up2_same ?_
  apply hX7_put_3_i
  refine ⟨fun _ => k _ (fun c h0 h1 => ?_) (fun i hi => ?_) up2_same (fun i hi => ?_) (fun j hj => ?_), fun q => absurd (by decide) q⟩
  · rw [up2_row h0, up2_row h1, up2_row h0, up2_row h1, up2_row h0, up2_row h1, up2_row h0, up2_row h1]
  · rw [up2_idx hi, up2_out (by omega), up2_idx hi, up2_out (by omega), up2_idx hi, up2_out (by omega), up2_idx hi, up2_out (by omega)]
  · rw [up2_out (by omega), up2_idx (by omega), up2_out (by omega), up2_idx (by omega), up2_out (by omega), up2_idx (by omega), up2_out (by omega), up2_idx (by omega)]
  · have hj4 : j = 0 ∨ j = 1 ∨ j = 2 ∨ j = 3 := by omega
    rcases hj4 with rfl | rfl | rfl | rfl
    · rw [up2_out (by omega), up2_idx (by omega), up2_out (by omega), up2_idx (by omega), up2_out (by omega), up2_idx (by omega), up2_out (by omega)]; exact up2_same
    · rw [up2_out (by omega), up2_idx (by omega), up2_out (by omega), up2_idx (by omega), up2_out (by omega)]; exact up2_same
    · rw [up2_out (by omega), up2_idx (by omega), up2_out (by omega)]; exact up2_same
    · rw [up2_out (by omega)]; exact up2_same
/-- one number is fed -/
theorem Q8_put {v : Int32} {n : Nat} (hn : n + 4 ≤ 400) (h : X 1 1 = nI n) {C : HX → HY → Prop} (k : ∀ X' Y', KpT b X X' Y Y' → X' 1 1 = nI (n + 4) → (∀ i, i < n → X' 2 i = X 2 i) → (∀ j, j < 4 → X' 2 (n + j) = sby (bytA v (24 - 8 * j))) → C X' Y') : tX7_put [.ref 0, .int v] (LX7 ++ []) (sb [1, 2] X) (sb [1, 2] Y) (cS0 (LX7 ++ []) (LX8 b) [1, 2] (LX8 b).length X Y Q C) := by
  have n79 := nC8_79 b
  have ln : (LX8 b).length = nC8 b := rfl
  refine X7_put_s (r := []) (n := n) hn h (fun X3 f1 f2 f3 f4 f5 => cS0_mk ?_)
  rw [ln]
  have a0 : mg [1, 2] (nC8 b) X X3 1 = X3 0 := mg_in 0 (by omega) rfl rfl
  have a1 : mg [1, 2] (nC8 b) X X3 2 = X3 1 := mg_in 1 (by omega) rfl rfl
  refine k _ _ (fun c hc => ⟨fun hd => ?_, mg_sb hc⟩) (by rw [a0]; exact f3) (fun i hi => ?_) (fun j hj => ?_)
  · exact mg_fr (ch := [0, 1]) (fun i _ hj => f1 i (fun e => hj (by simp [e])) (fun e => hj (by simp [e]))) hc (by simpa using hd)
  · rw [a1, f4 i (Or.inl hi)]; rfl
  · rw [a1]; exact f5 j hj
theorem X8_feed_s {t : Tp} {p1 p2 p3 p4 p5 : Int32} (h : Qw CK S1 S2 X Y s) (ht : TV8 X t) (k : ∀ X' Y', KpT b X X' Y Y' → Qw CK S1 S2 X' Y' s → TV8 X' (feT t p1 p2 p3 p4 p5) → Q (aFeed t) (LX8 b) X' Y') : tX8_feed b [.ref 0, .int p1, .int p2, .int p3, .int p4, .int p5] (LX8 b) X Y Q := by
  obtain ⟨t4, t1, t2⟩ := ht
  apply tX8_feed_i
  rw [t1]
  simp (disch := omega) only [m_0, m_L0, m_lt, m_le, m_eq, m_neg, m_in, m_clamp, m_add, m_sub, m_pred, m_mul, m_l, m_i, m_Land, m_Lor, m_and, m_or, m_xor, m_Landn, m_andn, m_LshlP, m_shl, m_LbitP, m_bit, m_cmp0P, m_Lb0, m_Lb1, m_b0, m_b1, Nat.one_mul]
  refine ⟨fun hq => ?_, fun hq => ?_⟩
  · refine Q8_put (n := t.1) (by omega) t1 (fun X2 Y2 k2 s2 u2 w2 => Q8_put (n := t.1 + 4) (by omega) s2 (fun X3 Y3 k3 s3 u3 w3 => Q8_put (n := t.1 + 4 + 4) (by omega) s3 (fun X4 Y4 k4 s4 u4 w4 => Q8_put (n := t.1 + 4 + 4 + 4) (by omega) s4 (fun X5 Y5 k5 s5 u5 w5 => Q8_put (n := t.1 + 4 + 4 + 4 + 4) (by omega) s5 (fun X6 Y6 k6 s6 u6 w6 => ?_)))))
    have kk := (((k2.trans k3).trans k4).trans k5).trans k6
    have e : feT t p1 p2 p3 p4 p5 = feN t p1 p2 p3 p4 p5 20 := by unfold feT; rw [if_pos hq]
    have ea : aFeed t = rI (nI (t.1 + 20)) := by unfold aFeed; rw [if_pos hq]
    have kx := k X6 Y6 kk (h.tape kk) (by
      rw [e]
      refine ⟨hq, s6, fun i hi => ?_⟩
      have hi : i < t.1 + 20 := hi
      show X6 2 i = sby (if i < t.1 then t.2 i else bytA (wd5 p1 p2 p3 p4 p5 ((i - t.1) / 4)) (24 - 8 * ((i - t.1) % 4))) ∧ (if i < t.1 then t.2 i else bytA (wd5 p1 p2 p3 p4 p5 ((i - t.1) / 4)) (24 - 8 * ((i - t.1) % 4))) < 256
      by_cases q : i < t.1
      · rw [if_pos q, u6 i (by omega), u5 i (by omega), u4 i (by omega), u3 i (by omega), u2 i q]; exact t2 i q
      · rw [if_neg q]
        refine ⟨?_, bytA_lt _ _⟩
        obtain ⟨j, rfl⟩ : ∃ j, i = t.1 + j := ⟨i - t.1, by omega⟩
        rw [Nat.add_sub_cancel_left]
        by_cases c1 : j < 4
        · rw [u6 _ (by omega), u5 _ (by omega), u4 _ (by omega), u3 _ (by omega), w2 j c1, show j / 4 = 0 by omega, show j % 4 = j by omega]; rfl
        by_cases c2 : j < 8
        · have := w3 (j - 4) (by omega)
          rw [u6 _ (by omega), u5 _ (by omega), u4 _ (by omega), show t.1 + j = t.1 + 4 + (j - 4) by omega, this, show j / 4 = 1 by omega, show j % 4 = j - 4 by omega]; rfl
        by_cases c3 : j < 12
        · have := w4 (j - 8) (by omega)
          rw [u6 _ (by omega), u5 _ (by omega), show t.1 + j = t.1 + 4 + 4 + (j - 8) by omega, this, show j / 4 = 2 by omega, show j % 4 = j - 8 by omega]; rfl
        by_cases c4 : j < 16
        · have := w5 (j - 12) (by omega)
          rw [u6 _ (by omega), show t.1 + j = t.1 + 4 + 4 + 4 + (j - 12) by omega, this, show j / 4 = 3 by omega, show j % 4 = j - 12 by omega]; rfl
        · have := w6 (j - 16) (by omega)
          rw [show t.1 + j = t.1 + 4 + 4 + 4 + 4 + (j - 16) by omega, this, show j / 4 = 4 by omega, show j % 4 = j - 16 by omega]; rfl)
    rw [ea] at kx
    rw [s6]; exact kx
  · have e : feT t p1 p2 p3 p4 p5 = t := by unfold feT; rw [if_neg hq]
    have ea : aFeed t = rI (-1) := by unfold aFeed; rw [if_neg hq]
    have kx := k X Y KpT.rfl h (by rw [e]; exact ⟨t4, t1, t2⟩)
    rw [ea] at kx; exact kx
theorem X8_end_s {t : Tp} {p : Int32} (h : Qw CK S1 S2 X Y s) (ht : TV8 X t) (k : ∀ X' Y', KpT b X X' Y Y' → Qw CK S1 S2 X' Y' s → TV8 X' (enT t p) → Q (aEnd t p) (LX8 b) X' Y') : tX8_end b [.ref 0, .int p] (LX8 b) X Y Q := by
  obtain ⟨t4, t1, t2⟩ := ht
  have no : ¬ (¬ p < 0 ∧ p.toNatClampNeg ≤ t.1) → Q (.inl (some (.int (nI 0)))) (LX8 b) X Y := fun hn => by
    have e : enT t p = t := cif_n hn
    have ea : aEnd t p = rI (nI 0) := by unfold aEnd; rw [iB_n hn]
    have kx := k X Y KpT.rfl h (by rw [e]; exact ⟨t4, t1, t2⟩)
    rw [ea] at kx; exact kx
  apply tX8_end_i
  refine ⟨fun q => ⟨(by first | exact Or.inl rfl | exact Or.inr rfl | exact Or.inl trivial | exact Or.inr trivial), no (fun z => z.1 q)⟩, fun q => ?_⟩
  rcases i32c p with z | ⟨g, hg, rfl⟩
  · exact absurd z q
  · rw [t1, m_le hg (by omega)]
    refine ⟨fun z => ⟨(by first | exact Or.inl rfl | exact Or.inr rfl | exact Or.inl trivial | exact Or.inr trivial), ?_⟩, fun z => ⟨(by first | exact Or.inl rfl | exact Or.inr rfl | exact Or.inl trivial | exact Or.inr trivial), no (fun y => z (by have := y.2; rw [m_clamp hg] at this; exact this))⟩⟩
    have hy : ¬ nI g < 0 ∧ (nI g).toNatClampNeg ≤ t.1 := ⟨q, by rw [m_clamp hg]; exact z⟩
    have e : enT t (nI g) = (g, t.2) := by unfold enT; rw [cif_y hy, m_clamp hg]
    have ea : aEnd t (nI g) = rI (nI 1) := by unfold aEnd; rw [iB_y hy]
    have kt : KpT b X (up2 X 1 1 (nI g)) Y Y := fun c hc => ⟨fun hd => up2_row hd.1, rfl⟩
    have kx := k _ Y kt (h.tape kt) (by
      rw [e]
      refine ⟨by show g ≤ 400; omega, up2_same, fun i hi => ?_⟩
      rw [up2_out (by omega)]; exact t2 i (by have : i < g := hi; omega))
    rw [ea] at kx; exact kx
theorem X8_fault_s (k : Q (rI (X 0 17)) (LX8 b) X Y) : tX8_fault b [.ref 0] (LX8 b) X Y Q := by
  apply tX8_fault_i
  exact k
end Tape8
/-- all but the TAPE stays, by the reference -/
def KmT (X X' : HX) (Y Y' : HY) : Prop := (∀ c, c ≠ 0 → c ≠ 5 → X' c = X c) ∧ (∀ i, i ≠ 0 → i ≠ 7 → X' 0 i = X 0 i) ∧ Y' = Y
section Tape9
variable {CM : HX → St → Prop} {X X' : HX} {Y Y' : HY} {s : St} {r : Ly} {Q : Qt}
theorem Mw.tape (h : Mw CM X Y s) (e : KmT X X' Y Y') : Mw CM X' Y' s := ⟨h.1, h.si, h.sv.of (e.1 1 (by omega) (by omega)), h.2.2.2.mono (e.2.1 28 (by omega) (by omega)) (fun z => h.1 X X' s (fun c h1 h2 => e.1 c (by omega) (by omega)) (e.2.1 35 (by omega) (by omega)) z)⟩
theorem X9_feed_s {t : Tp} {p1 p2 p3 p4 p5 : Int32} (h : Mw CM X Y s) (ht : TV9 X t) (k : ∀ X' Y' res, KmT X X' Y Y' → Mw CM X' Y' s → TV9 X' (feT t p1 p2 p3 p4 p5) → ansM cd1 (aFeed t) (X' 0 0) res → Q res (LX9 ++ r) X' Y') : tX9_feed [.ref 0, .int p1, .int p2, .int p3, .int p4, .int p5] (LX9 ++ r) X Y Q := by
  obtain ⟨t4, t1, t2⟩ := ht
  have k0 : KmT X (up2 X 0 0 (nI 0)) Y Y := ⟨fun c h0 _ => up2_row h0, fun i h0 _ => up2_idx h0, rfl⟩
  apply tX9_feed_i
  have e7 : up2 X 0 0 (nI 0) 0 7 = nI t.1 := by rw [up2_idx (by omega)]; exact t1
  rw [e7]
  simp (disch := omega) only [m_0, m_L0, m_lt, m_le, m_eq, m_neg, m_in, m_clamp, m_add, m_sub, m_pred, m_mul, m_l, m_i, m_Land, m_Lor, m_and, m_or, m_xor, m_Landn, m_andn, m_LshlP, m_shl, m_LbitP, m_bit, m_cmp0P, m_Lb0, m_Lb1, m_b0, m_b1, Nat.one_mul]
  refine ⟨fun hq => ?_, fun hq => ?_⟩
  · have e : feT t p1 p2 p3 p4 p5 = feN t p1 p2 p3 p4 p5 20 := by unfold feT; rw [if_pos hq]
    have ea : aFeed t = rI (nI (t.1 + 20)) := by unfold aFeed; rw [if_pos hq]
    rw [e, ea] at k
    have H : ∀ n j X2, j + n = 20 → KmT X X2 Y Y → X2 0 0 = nI 0 → TV9 X2 (feN t p1 p2 p3 p4 p5 j) → hX9_feed_23 Q r p1 p2 p3 p4 p5 (nI j) X2 Y := by
      intro n
      induction n with
      | zero =>
        intro j X2 hj k2 e2 v2
        have ej : j = 20 := by omega
        subst ej
        apply hX9_feed_23_i
        have kx := k X2 Y (rI (X2 0 7)) k2 (h.tape k2) v2 ⟨e2, by rw [v2.2.1]; rfl⟩
        exact ⟨fun _ => kx, fun q => absurd (by decide) q⟩
      | succ n ih =>
        intro j X2 hj k2 e2 v2
        have hj20 : j < 20 := by omega
        obtain ⟨v4, v1, v3⟩ := v2
        have v1 : X2 0 7 = nI (t.1 + j) := v1
        have leaf : ∀ v, v = wd5 p1 p2 p3 p4 p5 (j / 4) → (vp_in (X2 0 7) 400 ∧ hX9_feed_23 Q r p1 p2 p3 p4 p5 (nI j + nI 1) (up2 (up2 X2 5 (X2 0 7).toNatClampNeg (((v.toUInt32 >>> (((nI 24) - ((nI 8) * (nI j - nI j / (nI 4) * (nI 4)))).toUInt32 &&& Int32.toUInt32 31)).toInt32) &&& (nI 255))) 0 7 (((up2 X2 5 (X2 0 7).toNatClampNeg (((v.toUInt32 >>> (((nI 24) - ((nI 8) * (nI j - nI j / (nI 4) * (nI 4)))).toUInt32 &&& Int32.toUInt32 31)).toInt32) &&& (nI 255))) 0 7) + (nI 1))) Y) := fun v hv => by
          rw [sh_20 j hj20, byt_m (by omega), v1, m_clamp (by omega)]
          have e5 : up2 X2 5 (t.1 + j) (nI (bytA v (24 - 8 * (j % 4)))) 0 7 = nI (t.1 + j) := by rw [up2_out (by omega)]; exact v1
          rw [e5]
          simp (disch := omega) only [m_0, m_L0, m_lt, m_le, m_eq, m_neg, m_in, m_clamp, m_add, m_sub, m_pred, m_mul, m_l, m_i, m_Land, m_Lor, m_and, m_or, m_xor, m_Landn, m_andn, m_LshlP, m_shl, m_LbitP, m_bit, m_cmp0P, m_Lb0, m_Lb1, m_b0, m_b1, Nat.one_mul]
          have f2 : ∀ c, c ≠ 0 → c ≠ 5 → up2 (up2 X2 5 (t.1 + j) (nI (bytA v (24 - 8 * (j % 4))))) 0 7 (nI (t.1 + j + 1)) c = X2 c := fun c c1 c2 => by rw [up2_row c1, up2_row c2]
          have f0 : ∀ i, i ≠ 7 → up2 (up2 X2 5 (t.1 + j) (nI (bytA v (24 - 8 * (j % 4))))) 0 7 (nI (t.1 + j + 1)) 0 i = X2 0 i := fun i hi => by rw [up2_idx hi, up2_out (by omega)]
          refine ⟨by omega, ih (j + 1) _ (by omega) ⟨fun c c1 c2 => (f2 c c1 c2).trans (k2.1 c c1 c2), fun i c1 c2 => (f0 i c2).trans (k2.2.1 i c1 c2), rfl⟩ (by rw [f0 0 (by omega)]; exact e2) ⟨by show t.1 + (j + 1) ≤ 400; omega, by rw [up2_same]; rfl, fun i hi => ?_⟩⟩
          have hi : i < t.1 + (j + 1) := hi
          rw [up2_out (by omega)]
          by_cases q : i = t.1 + j
          · subst q
            rw [up2_same]
            show nI _ = nI (if t.1 + j < t.1 then _ else bytA (wd5 p1 p2 p3 p4 p5 ((t.1 + j - t.1) / 4)) (24 - 8 * ((t.1 + j - t.1) % 4))) ∧ (if t.1 + j < t.1 then _ else bytA (wd5 p1 p2 p3 p4 p5 ((t.1 + j - t.1) / 4)) (24 - 8 * ((t.1 + j - t.1) % 4))) < 256
            rw [if_neg (by omega), Nat.add_sub_cancel_left, ← hv]
            exact ⟨rfl, bytA_lt _ _⟩
          · rw [up2_idx q]
            exact v3 i (by show i < t.1 + j; omega)
        apply hX9_feed_23_i
        rw [m_le (by omega) (by omega), m_le (by omega) (by omega), m_le (by omega) (by omega), m_le (by omega) (by omega), m_le (by omega) (by omega)]
        have d4 : ¬ nI 4 = 0 := by decide
        refine ⟨fun q => by omega, fun _ => ⟨fun q1 => ⟨fun q2 => ⟨fun q3 => ⟨fun q4 => ⟨d4, leaf p5 ?_⟩, fun q4 => ⟨d4, leaf p4 ?_⟩⟩, fun q3 => ⟨d4, leaf p3 ?_⟩⟩, fun q2 => ⟨d4, leaf p2 ?_⟩⟩, fun q1 => ⟨d4, leaf p1 ?_⟩⟩⟩
        · rw [show j / 4 = 4 by omega]; rfl
        · rw [show j / 4 = 3 by omega]; rfl
        · rw [show j / 4 = 2 by omega]; rfl
        · rw [show j / 4 = 1 by omega]; rfl
        · rw [show j / 4 = 0 by omega]; rfl
    refine H 20 0 _ (by omega) k0 up2_same ⟨by show t.1 + 0 ≤ 400; omega, by rw [e7]; rfl, fun i hi => ?_⟩
    have hi : i < t.1 := hi
    show up2 X 0 0 (nI 0) 5 i = nI (if i < t.1 then t.2 i else _) ∧ (if i < t.1 then t.2 i else _) < 256
    rw [if_pos hi, up2_out (by omega)]; exact t2 i hi
  · have e : feT t p1 p2 p3 p4 p5 = t := by unfold feT; rw [if_neg hq]
    have ea : aFeed t = rI (-1) := by unfold aFeed; rw [if_neg hq]
    refine k _ Y _ k0 (h.tape k0) (by rw [e]; exact ⟨t4, e7, fun i hi => by rw [up2_out (by omega)]; exact t2 i hi⟩) ?_
    rw [ea]; exact ⟨up2_same, rfl⟩
theorem X9_end_s {t : Tp} {p : Int32} (h : Mw CM X Y s) (ht : TV9 X t) (k : ∀ X' Y' res, KmT X X' Y Y' → Mw CM X' Y' s → TV9 X' (enT t p) → ansM cd1 (aEnd t p) (X' 0 0) res → Q res (LX9 ++ r) X' Y') : tX9_end [.ref 0, .int p] (LX9 ++ r) X Y Q := by
  obtain ⟨t4, t1, t2⟩ := ht
  have k0 : KmT X (up2 X 0 0 (nI 0)) Y Y := ⟨fun c h0 _ => up2_row h0, fun i h0 _ => up2_idx h0, rfl⟩
  apply tX9_end_i
  have e7 : up2 X 0 0 (nI 0) 0 7 = nI t.1 := by rw [up2_idx (by omega)]; exact t1
  rw [e7]
  refine Q9_in (by omega) (by omega) (fun z hz => cK1_mk ?_)
  have hp : (¬ p < nI 0 ∧ ¬ nI t.1 < p) ↔ (¬ p < 0 ∧ p.toNatClampNeg ≤ t.1) := by
    rcases i32c p with y | ⟨g, hg, rfl⟩
    · exact ⟨fun q => absurd y q.1, fun q => absurd y q.1⟩
    · rw [m_clamp hg, m_lt (by omega) hg]
      exact ⟨fun q => ⟨q.1, by omega⟩, fun q => ⟨q.1, by omega⟩⟩
  rw [hp] at hz
  refine ⟨fun q => ⟨(by first | exact Or.inl rfl | exact Or.inr rfl | exact Or.inl trivial | exact Or.inr trivial), ?_⟩, fun q => ⟨(by first | exact Or.inl rfl | exact Or.inr rfl | exact Or.inl trivial | exact Or.inr trivial), ?_⟩⟩
  · have hy := hz.mp (z11 q)
    have e : enT t p = (p.toNatClampNeg, t.2) := cif_y hy
    have ea : aEnd t p = rI (nI 1) := by unfold aEnd; rw [iB_y hy]
    have k1 : KmT X (up2 (up2 X 0 0 (nI 0)) 0 7 p) Y Y := ⟨fun c h0 _ => by rw [up2_row h0, up2_row h0], fun i h0 h7 => by rw [up2_idx h7, up2_idx h0], rfl⟩
    refine k _ Y _ k1 (h.tape k1) ?_ (by rw [ea]; exact ⟨by rw [up2_idx (by omega)]; exact up2_same, rfl⟩)
    rw [e]
    refine ⟨by have := hy.2; show p.toNatClampNeg ≤ 400; omega, ?_, fun i hi => ?_⟩
    · rw [up2_same]
      rcases i32c p with y | ⟨g, hg, rfl⟩
      · exact absurd y hy.1
      · show nI g = nI (nI g).toNatClampNeg; rw [m_clamp hg]
    · rw [up2_out (by omega), up2_out (by omega)]
      exact t2 i (by have h1 := hy.2; have : i < p.toNatClampNeg := hi; omega)
  · have hn : ¬ (¬ p < 0 ∧ p.toNatClampNeg ≤ t.1) := fun y => q (by rw [hz.mpr y]; decide)
    have e : enT t p = t := cif_n hn
    have ea : aEnd t p = rI (nI 0) := by unfold aEnd; rw [iB_n hn]
    refine k _ Y _ k0 (h.tape k0) (by rw [e]; exact ⟨t4, e7, fun i hi => by rw [up2_out (by omega)]; exact t2 i hi⟩) ?_
    rw [ea]; exact ⟨up2_same, rfl⟩
theorem X9_fault_s (h : Mw CM X Y s) (k : KmT X (up2 X 0 0 (nI 0)) Y Y → Mw CM (up2 X 0 0 (nI 0)) Y s → Q (rI (X 0 10)) (LX9 ++ r) (up2 X 0 0 (nI 0)) Y) : tX9_fault [.ref 0] (LX9 ++ r) X Y Q := by
  have k0 : KmT X (up2 X 0 0 (nI 0)) Y Y := ⟨fun c h0 _ => up2_row h0, fun i h0 _ => up2_idx h0, rfl⟩
  apply tX9_fault_i
  rw [up2_idx (show (10 : Nat) ≠ 0 by omega)]
  exact k k0 (h.tape k0)
end Tape9
