/-! the fewest memories that must be wrong -/
/-- the first 10 in force, of the first n -/
def dbj (s : St) : Nat → List Nat
  | 0 => []
  | j + 1 => if sFo s j = true ∧ (dbj s j).length < 10 then dbj s j ++ [j] else dbj s j
def dbL (s : St) : List Nat := dbj s (sN s)
def nD (s : St) : Nat := (dbL s).length
def dbA (s : St) (i : Nat) : Nat := (dbL s).getD i 0
theorem dbj_len (s : St) : ∀ j, (dbj s j).length ≤ 10
  | 0 => by simp [dbj]
  | j + 1 => by
    have ih := dbj_len s j
    simp only [dbj]
    split
    · rename_i h; simp; omega
    · exact ih
theorem dbj_mem {s : St} {x : Nat} : ∀ {j : Nat}, x ∈ dbj s j → x < j ∧ sFo s x = true
  | 0, h => by simp [dbj] at h
  | j + 1, h => by
    simp only [dbj] at h
    split at h
    · rename_i q
      rcases List.mem_append.mp h with h | h
      · have := dbj_mem h; exact ⟨by omega, this.2⟩
      · rw [List.mem_singleton.mp h]; exact ⟨by omega, q.1⟩
    · have := dbj_mem h; exact ⟨by omega, this.2⟩
theorem dbj_nd {s : St} : ∀ j, (dbj s j).Nodup
  | 0 => by simp [dbj]
  | j + 1 => by
    simp only [dbj]
    split
    · rw [List.nodup_append]
      refine ⟨dbj_nd j, by simp, fun a ha b hb => ?_⟩
      rw [List.mem_singleton.mp hb]
      have := (dbj_mem ha).1; omega
    · exact dbj_nd j
theorem dbj_stop {s : St} {j : Nat} (h : 10 ≤ (dbj s j).length) : ∀ n, dbj s (j + n) = dbj s j
  | 0 => rfl
  | n + 1 => by
    have ih := dbj_stop h n
    show dbj s (j + n + 1) = _
    simp only [dbj]
    rw [ih, if_neg (fun q => by omega)]
theorem nD10 (s : St) : nD s ≤ 10 := dbj_len s _
theorem dbA_in {s : St} {i : Nat} (h : i < nD s) : dbA s i < sN s ∧ sFo s (dbA s i) = true := dbj_mem (getD_mem (l := dbL s) h)
theorem dbA_inj {s : St} {i k : Nat} (hi : i < nD s) (hk : k < nD s) (e : dbA s i = dbA s k) : i = k := by
  have h1 : (dbL s)[i]? = some (dbA s i) := by unfold dbA; rw [List.getD_eq_getElem?_getD, List.getElem?_eq_getElem hi]; rfl
  have h2 : (dbL s)[k]? = some (dbA s k) := by unfold dbA; rw [List.getD_eq_getElem?_getD, List.getElem?_eq_getElem hk]; rfl
  have hn : (dbL s).Nodup := dbj_nd _
  exact (List.getElem?_inj hi hn).mp (by rw [h1, h2, e])
/-- in force, with some of these struck -/
def fS (s : St) (S : Nat) (k : Nat) : Bool := sFo s k && !((List.range (nD s)).any (fun i => S.testBit i && dbA s i == k))
def goodX (s : St) (S : Nat) : Prop := cnB (mt s (fS s S)) (2 ^ sG s - 1)
noncomputable def aLies (s : St) (p : Int32) : Rs := cif (p < 0 ∨ ¬ p ≤ nI 2) (.inr XN) (rI (fewA (goodX s) (2 ^ nD s) p))
def S76 (X : HX) (s : St) : Prop := fwP (goodX s) (2 ^ nD s) 76 X
theorem S76_in : InC 76 76 S76 := fun X X' s e h => by
  unfold S76 fwP at h ⊢
  rw [e 76 (by omega) (by omega)]; exact h
theorem pw10 {m : Nat} (h : m ≤ 10) : 2 ^ m ≤ 1024 := Nat.le_trans (Nat.pow_le_pow_right (n := 2) (by omega) h) (by decide : 2 ^ 10 ≤ _)
theorem cnt_n {S n : Nat} (hn : n ≤ 10) (hS : S < 2 ^ n) : cnt S ≤ n := by
  rw [cnt_sz]
  have := gSz_out (P := Bs S) (n := n) (fun v hv => bit_lt hS hv) (64 - n)
  rw [show n + (64 - n) = 64 by omega] at this
  rw [this]; exact gSz_bd
def DbV (X : HX) (s : St) : Prop := ∀ i, i < nD s → X 78 i = nI (dbA s i)
section Lies8
variable {CK S1 S2 : HX → St → Prop} {X X' : HX} {Y Y' : HY} {s : St} {b : Bool} {Q : Qt}
theorem Qw.c76 (h : Qw CK S76 S2 X Y s) (ex : ∀ c, c < 79 → c ≠ 76 → X' c = X c) (ey : ∀ c, c < 79 → Y' c = Y c) (f : Fl X' 76 0 (S76 X' s)) : Qw CK S76 S2 X' Y' s := by
  obtain ⟨⟨hC, h1, h2⟩, q1, q2, q3, q4, q5, q6, q7, q8, q9, q10, q11⟩ := h
  have xx : ∀ c i, c < 79 → c ≠ 76 → X' c i = X c i := fun c i hc hd => by rw [ex c hc hd]
  refine ⟨⟨hC, h1, h2⟩, q1, q2.of (fun c z1 z2 => ex c (by omega) (by omega)), by rw [ey 9 (by omega)]; exact q3, ⟨by rw [xx 33 2 (by omega) (by omega)]; exact q4.1, by rw [xx 37 2 (by omega) (by omega)]; exact q4.2⟩, ?_, ?_, ?_, ?_, ?_, f, ?_⟩
  · intro k hk
    have : sb S41 X' 4 = sb S41 X 4 := ex 45 (by omega) (by omega)
    rw [this]; exact q5 k hk
  · exact q6.mono (xx _ _ (by omega) (by omega)) (fun z => z.of (xx _ _ (by omega) (by omega)) (ex _ (by omega) (by omega)) (ex _ (by omega) (by omega)) (ex _ (by omega) (by omega)) (ey _ (by omega)))
  · exact q7.mono (xx _ _ (by omega) (by omega)) (fun z => ⟨by rw [xx 25 3 (by omega) (by omega)]; exact z.1, z.2.of (xx _ _ (by omega) (by omega)) (fun c z1 z2 => ex c (by omega) (by omega))⟩)
  · exact q8.mono (xx _ _ (by omega) (by omega)) (fun z => ⟨by rw [xx 41 4 (by omega) (by omega)]; exact z.1, z.2.of (xx _ _ (by omega) (by omega)) (fun c z1 z2 => ex c (by omega) (by omega))⟩)
  · exact q9.mono (xx _ _ (by omega) (by omega)) (fun z => ⟨by rw [xx 41 4 (by omega) (by omega)]; exact z.1, hC X X' s (fun c z1 z2 => ex c (by omega) (by omega)) z.2⟩)
  · exact q11.mono (xx _ _ (by omega) (by omega)) (fun z => h2 X X' s (fun c z1 z2 => ex c (by omega) (by omega)) z)
/-- what a callee in the trial leaves -/
theorem scr37 {X3 : HX} {Y3 : HY} (f1 : ∀ c, c ≠ 0 → c ≠ 2 → X3 c = sb [37, 38, 39, 40] X c) (f2 : ∀ i, i ≠ 1 → X3 0 i = sb [37, 38, 39, 40] X 0 i) (g : ∀ c, c ≠ 1 → c ≠ 3 → Y3 c = sb [37, 38, 39, 40] Y c) : Scr b X (mg [37, 38, 39, 40] (LX8 b).length X X3) Y (mg [37, 38, 39, 40] (LX8 b).length Y Y3) := by
  have n79 := nC8_79 b
  have ln : (LX8 b).length = nC8 b := rfl
  rw [ln]
  refine ⟨fun c hc hd => ?_, ?_, ?_, fun c hc hd => ?_⟩
  · refine mg_fr (ch := [0, 2]) (fun i _ hj => f1 i (fun e => hj (by simp [e])) (fun e => hj (by simp [e]))) hc ?_
    simp only [List.mem_cons, List.not_mem_nil, or_false, not_or] at hd
    simp; omega
  · rw [mg_out (by omega) (by decide)]
  · rw [show mg [37, 38, 39, 40] (nC8 b) X X3 37 = X3 0 from mg_in 0 (by omega) rfl rfl, f2 2 (by omega)]; rfl
  · refine mg_fr (ch := [1, 3]) (fun i _ hj => g i (fun e => hj (by simp [e])) (fun e => hj (by simp [e]))) hc ?_
    simp only [List.mem_cons, List.not_mem_nil, or_false, not_or] at hd
    simp; omega
theorem m_and40 {f k : Nat} (hk : k < 40) : lN f &&& ((lN 1 <<< ((nI k).toInt64 &&& 63)) ^^^ (-1 : Int64)) = lN (nAn f (2 ^ k)) := by
  rw [m_Lshl (by omega), Nat.one_mul, m_Landn]
theorem Q8_without {S : Nat} (h : Qw CK S1 S2 X Y s) (hD : DbV X s) (hS : S < 2 ^ nD s) (k : ∀ (z : Bool) X' Y', Scr b X X' Y Y' → Qw CK S1 S2 X' Y' s → DbV X' s → (z = true ↔ goodX s S) → Q (.inl (some (.int (nI z.toNat)))) (LX8 b) X' Y') : tX8_isLayableWithout b [.ref 0, .int (nI S)] (LX8 b) X Y Q := by
  have n79 := nC8_79 b
  have ln : (LX8 b).length = nC8 b := rfl
  have hD10 := nD10 s
  have hT := pw10 hD10
  obtain ⟨hW, q1, q2, q3, q4, q5⟩ := id h
  apply tX8_isLayableWithout_i
  rw [q3]
  have H : ∀ t i f, i + t = 10 → f < 1099511627776 → (∀ x, f.testBit x = ((fm s).testBit x && !((List.range i).any (fun i => S.testBit i && dbA s i == x)))) → hX8_isLayableWithout_11 Q b (nI S) (lN f) (nI i) X Y := by
    intro t
    induction t with
    | zero =>
      intro i f hi hf hI
      apply hX8_isLayableWithout_11_i
      simp (disch := omega) only [m_0, m_L0, m_lt, m_le, m_eq, m_neg, m_in, m_clamp, m_add, m_sub, m_pred, m_mul, m_l, m_i, m_Land, m_Lor, m_and, m_or, m_xor, m_Landn, m_andn, m_LshlP, m_shl, m_LbitP, m_bit, m_cmp0P, m_Lb0, m_Lb1, m_b0, m_b1, Nat.one_mul]
      refine ⟨fun _ => ?_, fun h => by omega⟩
      have eF : ∀ x, x < sN s → f.testBit x = fS s S x := fun x hx => by
        rw [hI x, fm_bit hx]
        unfold fS
        congr 2
        rw [Bool.eq_iff_iff, List.any_eq_true, List.any_eq_true]
        constructor
        · rintro ⟨y, hy, hz⟩
          refine ⟨y, List.mem_range.mpr ?_, hz⟩
          rw [Bool.and_eq_true] at hz
          exact bit_lt hS hz.1
        · rintro ⟨y, hy, hz⟩
          exact ⟨y, List.mem_range.mpr (by have := List.mem_range.mp hy; omega), hz⟩
      refine X5_settle_s (r := []) (s := s) q1 q2 hf (fun X3 f3 r3 => cS0_mk ?_)
      rw [ln]
      have fa : ∀ c, c < nC8 b → c ≠ 32 → mg [29, 30, 31, 32, 9, 10, 11, 12, 13, 14, 15, 16] (nC8 b) X X3 c = X c := fun c hc hd => mg_fr (ch := [3]) (fun i _ hi => f3 i (fun e => hi (by simp [e]))) hc (by simpa using hd)
      have ya : ∀ c, c < nC8 b → mg [29, 30, 31, 32, 9, 10, 11, 12, 13, 14, 15, 16] (nC8 b) Y (sb [29, 30, 31, 32, 9, 10, 11, 12, 13, 14, 15, 16] Y) c = Y c := fun c hc => mg_sb hc
      have ra : mg [29, 30, 31, 32, 9, 10, 11, 12, 13, 14, 15, 16] (nC8 b) X X3 32 = X3 3 := mg_in 3 (by omega) rfl rfl
      have rv : RV 32 (mg [29, 30, 31, 32, 9, 10, 11, 12, 13, 14, 15, 16] (nC8 b) X X3) s (fS s S) (sN s) := fun x y hx hy => by
        rw [ra, r3 x y hx hy, rul_eq eF]
      revert fa ya rv
      generalize mg [29, 30, 31, 32, 9, 10, 11, 12, 13, 14, 15, 16] (nC8 b) X X3 = Xa
      generalize mg [29, 30, 31, 32, 9, 10, 11, 12, 13, 14, 15, 16] (nC8 b) Y (sb [29, 30, 31, 32, 9, 10, 11, 12, 13, 14, 15, 16] Y) = Ya
      intro fa ya rv
      have sa : Scr b X Xa Y Ya := ⟨fun c hc hd => fa c hc (fun e => hd (by subst e; decide)), by rw [fa 33 (by omega) (by omega)], by rw [fa 37 (by omega) (by omega)], fun c hc _ => ya c hc⟩
      have ha := h.scr sa
      refine X5_tell_s (s := s) (F := fS s S) q1 ha.bv rv (by show Xa 37 2 = nI 10; exact ha.2.2.2.2.1.2) (fun X4 Y4 f4 g4 m4 => cS0_mk ?_)
      have fb : ∀ c, c < nC8 b → mg [29, 30, 31, 32, 9, 10, 11, 12, 13, 14, 15, 16, 37, 38, 39, 40] (nC8 b) Xa X4 c = Xa c := fun c hc => mg_fr (ch := []) (fun i hi _ => f4 i hi) hc (by simp)
      have yb : ∀ c, c < nC8 b → c ≠ 38 → mg [29, 30, 31, 32, 9, 10, 11, 12, 13, 14, 15, 16, 37, 38, 39, 40] (nC8 b) Ya Y4 c = Ya c := fun c hc hd => mg_fr (ch := [13]) (fun i hi hj => g4 i hi (fun e => hj (by simp [e]))) hc (by simpa using hd)
      have mb : mg [29, 30, 31, 32, 9, 10, 11, 12, 13, 14, 15, 16, 37, 38, 39, 40] (nC8 b) Ya Y4 38 = Y4 13 := mg_in 13 (by omega) rfl rfl
      revert fb yb mb
      generalize mg [29, 30, 31, 32, 9, 10, 11, 12, 13, 14, 15, 16, 37, 38, 39, 40] (nC8 b) Xa X4 = Xb
      generalize mg [29, 30, 31, 32, 9, 10, 11, 12, 13, 14, 15, 16, 37, 38, 39, 40] (nC8 b) Ya Y4 = Yb
      intro fb yb mb
      have sb2 : Scr b Xa Xb Ya Yb := ⟨fun c hc _ => fb c hc, by rw [fb 33 (by omega)], by rw [fb 37 (by omega)], fun c hc hd => yb c hc (fun e => hd (by subst e; decide))⟩
      have hb := ha.scr sb2
      refine Q8_all hb (cK2_mk ?_)
      refine X4_isLayable_s (M := mt s (fS s S)) ⟨by omega, hb.2.2.2.2.1.2, fun i hi => ⟨by show Yb 38 i = _; rw [mb]; exact m4 i hi, by have := mt_lt (F := fS s S) q1 i; omega⟩⟩ (mt_gm q1) (full_bd q1) (full_w q1) (fun z X5 Y5 f5 g5 y5 hz => cS1_mk ⟨b01 z, ?_⟩)
      have sc := scr37 (b := b) (X := Xb) (Y := Yb) f5 g5 (fun c _ hc => y5 c hc)
      have st := (sa.trans sb2).trans sc
      refine k z _ _ st (hb.scr sc) (fun i hi => ?_) hz
      have e78 : mg [37, 38, 39, 40] (nC8 b) Xb X5 78 = Xb 78 := mg_out (by omega) (by decide)
      rw [e78, fb 78 (by omega), fa 78 (by omega) (by omega)]; exact hD i hi
    | succ t ih =>
      intro i f hi hf hI
      have h9 : (∀ x, (!((List.range (i + 1)).any (fun i => S.testBit i && dbA s i == x))) = (!((List.range i).any (fun i => S.testBit i && dbA s i == x)) && !(S.testBit i && dbA s i == x))) := fun x => by
        rw [List.range_succ, List.any_append]
        simp
      apply hX8_isLayableWithout_11_i
      simp (disch := omega) only [m_0, m_L0, m_lt, m_le, m_eq, m_neg, m_in, m_clamp, m_add, m_sub, m_pred, m_mul, m_l, m_i, m_Land, m_Lor, m_and, m_or, m_xor, m_Landn, m_andn, m_LshlP, m_shl, m_LbitP, m_bit, m_cmp0P, m_Lb0, m_Lb1, m_b0, m_b1, Nat.one_mul]
      refine ⟨fun h => by omega, fun _ => ⟨fun hb => ih (i + 1) f (by omega) hf (fun x => ?_), fun hb => ⟨by omega, ?_⟩⟩⟩
      · rw [hI x, h9 x, hb]; simp
      · have hb1 : S.testBit i = true := nz_nz hb
        have hiD : i < nD s := bit_lt hS hb1
        have hd := dbA_in hiD
        have n40 := q1.2.1
        rw [hD i hiD]
        simp (disch := omega) only [m_0, m_L0, m_lt, m_le, m_eq, m_neg, m_in, m_clamp, m_add, m_sub, m_pred, m_mul, m_l, m_i, m_Land, m_Lor, m_and, m_or, m_xor, m_Landn, m_andn, m_LshlP, m_shl, m_LbitP, m_bit, m_cmp0P, m_Lb0, m_Lb1, m_b0, m_b1, Nat.one_mul]
        refine ih (i + 1) _ (by omega) (Nat.lt_of_le_of_lt (nAn_le _ _) hf) (fun x => ?_)
        rw [nAn_bit, Nat.testBit_two_pow, hI x, h9 x, hb1]
        have : decide (dbA s i = x) = (dbA s i == x) := by
          by_cases e : dbA s i = x <;> simp [e]
        rw [this, Bool.true_and, Bool.and_assoc]
  exact H 10 0 (fm s) (by omega) (fm_lt q1) (fun x => by simp)
theorem X8_lies_s {p : Int32} (h : Qw CK S76 S2 X Y s) (k : ∀ X' Y', Kp b X X' Y Y' → Qw CK S76 S2 X' Y' s → Q (aLies s p) (LX8 b) X' Y') : tX8_lies b [.ref 0, .int p] (LX8 b) X Y Q := by
  have n79 := nC8_79 b
  have hD10 := nD10 s
  have hT := pw10 hD10
  have n40 := h.si.2.1
  have ln : (LX8 b).length = nC8 b := rfl
  apply tX8_lies_i
  refine ⟨fun q => ?_, fun q => ⟨fun q2 => ?_, fun q2 => ?_⟩⟩
  · have k' := k _ _ Kp.rfl h
    unfold aLies at k'
    rw [cif_y (Or.inl q)] at k'; exact k'
  · have hn : ¬ (p < 0 ∨ ¬ p ≤ nI 2) := fun y => y.elim q (fun y => y q2)
    have tell : ∀ X1 Y1, Kp b X X1 Y Y1 → Qw CK S76 S2 X1 Y1 s → X1 76 0 = nI 1 → tX2_tell [.ref 0, .int p] (LX2 ++ []) (sb [76] X1) (sb [76] Y1) (cS1 (LX2 ++ []) (LX8 b) [76] (LX8 b).length X1 Y1 Q (fun x4 X4 Y4 => Q (.inl (some (.int x4))) (LX8 b) X4 Y4)) := by
      intro X1 Y1 kp hq e1
      have hf : fwP (goodX s) (2 ^ nD s) 76 X1 := Fl.get hq.2.2.2.2.2.2.2.2.2.2.1 e1
      refine X2_tell_s (by omega) hf (cS1_mk ?_)
      have e := Eq8.mg (b := b) (X := X1) (Y := Y1) [76]
      have k' := k _ _ (kp.trans e.kp) (hq.scr e.scr)
      unfold aLies at k'
      rw [cif_n hn] at k'; exact k'
    refine ⟨fun q3 => ?_, fun q3 => ?_⟩
    · refine tell X Y Kp.rfl h ?_
      rcases h.2.2.2.2.2.2.2.2.2.2.1 with z | z
      · exact absurd z q3
      · exact z.1
    · have q3 : X 76 0 = nI 0 := Classical.not_not.mp q3
      apply tX8_findLies_i
      have done : ∀ X1 Y1, Kp b X X1 Y Y1 → Qw CK S76 S2 X1 Y1 s → fwP (goodX s) (2 ^ nD s) 76 X1 → cK0 (LX8 b) Q (fun X5 Y5 => tX2_tell [.ref 0, .int p] (LX2 ++ []) (sb [76] X5) (sb [76] Y5) (cS1 (LX2 ++ []) (LX8 b) [76] (LX8 b).length X5 Y5 Q (fun x6 X6 Y6 => Q (.inl (some (.int x6))) (LX8 b) X6 Y6))) (.inl none) (LX8 b) (up2 X1 76 0 (nI 1)) Y1 := by
        intro X1 Y1 kp hq hf
        refine cK0_mk (tell _ _ (kp.trans (fun c hc hd => ⟨up2_row (by omega), rfl⟩)) (hq.c76 (fun c hc hd => up2_row hd) (fun _ _ => rfl) (Or.inr ⟨up2_same, ?_⟩)) up2_same)
        unfold S76 fwP at *
        rw [up2_idx (by omega), up2_idx (by omega), up2_idx (by omega)]; exact hf
      revert done
      generalize (cK0 (LX8 b) Q (fun X5 Y5 => tX2_tell [.ref 0, .int p] (LX2 ++ []) (sb [76] X5) (sb [76] Y5) (cS1 (LX2 ++ []) (LX8 b) [76] (LX8 b).length X5 Y5 Q (fun x6 X6 Y6 => Q (.inl (some (.int x6))) (LX8 b) X6 Y6)))) = Q'
      intro done
      have H : ∀ n m X1 Y1, m + n = nD s + 1 → Kp b X X1 Y Y1 → Qw CK S76 S2 X1 Y1 s → DbV X1 s → X1 76 0 = nI 0 → ((X1 76 1 = nI 0 ∧ ∀ S, S < 2 ^ nD s → goodX s S → m ≤ cnt S) ∨ (¬ X1 76 1 = nI 0 ∧ fwP (goodX s) (2 ^ nD s) 76 X1)) → hX8_findLies_57 Q' b (nI (nD s)) (nI m) X1 Y1 := by
        intro n
        induction n with
        | zero =>
          intro m X1 Y1 hm kp hq pk e0 hI
          apply hX8_findLies_57_i
          simp (disch := omega) only [m_0, m_L0, m_lt, m_le, m_eq, m_neg, m_in, m_clamp, m_add, m_sub, m_pred, m_mul, m_l, m_i, m_Land, m_Lor, m_and, m_or, m_xor, m_Landn, m_andn, m_LshlP, m_shl, m_LbitP, m_bit, m_cmp0P, m_Lb0, m_Lb1, m_b0, m_b1, Nat.one_mul]
          refine ⟨fun _ => ⟨(by first | exact Or.inl rfl | exact Or.inr rfl | exact Or.inl trivial | exact Or.inr trivial), done X1 Y1 kp hq ?_⟩, fun h => by omega⟩
          rcases hI with ⟨i1, i2⟩ | ⟨i1, i2⟩
          · exact Or.inl ⟨i1, fun S hS hg => by have := i2 S hS hg; have := cnt_n hD10 hS; omega⟩
          · exact i2
        | succ n ih =>
          intro m X1 Y1 hm kp hq pk e0 hI
          apply hX8_findLies_57_i
          simp (disch := omega) only [m_0, m_L0, m_lt, m_le, m_eq, m_neg, m_in, m_clamp, m_add, m_sub, m_pred, m_mul, m_l, m_i, m_Land, m_Lor, m_and, m_or, m_xor, m_Landn, m_andn, m_LshlP, m_shl, m_LbitP, m_bit, m_cmp0P, m_Lb0, m_Lb1, m_b0, m_b1, Nat.one_mul]
          refine ⟨fun h => by omega, fun _ => ⟨fun z => ⟨(by first | exact Or.inl rfl | exact Or.inr rfl | exact Or.inl trivial | exact Or.inr trivial), done X1 Y1 kp hq ?_⟩, fun z => ?_⟩⟩
          · rcases hI with ⟨i1, i2⟩ | ⟨i1, i2⟩
            · exact absurd i1 z
            · exact i2
          · have z := Classical.not_not.mp z
            have hI : ∀ S, S < 2 ^ nD s → goodX s S → m ≤ cnt S := by
              rcases hI with ⟨i1, i2⟩ | ⟨i1, i2⟩
              · exact i2
              · exact absurd z i1
            have G : ∀ t j X1 Y1, j + t = 2 ^ nD s → Kp b X X1 Y Y1 → Qw CK S76 S2 X1 Y1 s → DbV X1 s → X1 76 0 = nI 0 → fwI (goodX s) (2 ^ nD s) m j 76 X1 → hX8_findLies_74 Q' b (nI (nD s)) (nI m) (nI j) X1 Y1 := by
              intro t
              induction t with
              | zero =>
                intro j X1 Y1 hj kp hq pk e0 hJ
                have ej : j = 2 ^ nD s := by omega
                apply hX8_findLies_74_i
                simp (disch := omega) only [m_0, m_L0, m_lt, m_le, m_eq, m_neg, m_in, m_clamp, m_add, m_sub, m_pred, m_mul, m_l, m_i, m_Land, m_Lor, m_and, m_or, m_xor, m_Landn, m_andn, m_LshlP, m_shl, m_LbitP, m_bit, m_cmp0P, m_Lb0, m_Lb1, m_b0, m_b1, Nat.one_mul]
                refine ⟨fun _ => ih (m + 1) X1 Y1 (by omega) kp hq pk e0 ?_, fun h => by omega⟩
                obtain ⟨j1, j2⟩ := hJ
                rcases j2 with j2 | ⟨w, w1, w2, w3, w4, w5, w6, w7, w8⟩
                · left
                  refine ⟨j2, fun S hS hg => ?_⟩
                  rcases j1 S hS hg with y | ⟨y1, y2⟩
                  · omega
                  · have := y2 j2; omega
                · right
                  have b1 := gSz_1 (P := fun S => goodX s S ∧ cnt S = m) w1 ⟨w3, w4⟩
                  have b2 := gSz_bd (P := fun S => goodX s S ∧ cnt S = m) (n := j)
                  refine ⟨fun y => by rw [w8, m_eq (by omega) (by omega)] at y; omega, Or.inr ⟨w, ⟨w2, w3, fun S hS hg => ?_⟩, by omega, ?_, w7, ?_⟩⟩
                  · rcases j1 S hS hg with y | ⟨y1, y2⟩
                    · left; omega
                    · right; exact ⟨by omega, w5 S hS hg y1⟩
                  · rw [w4]; exact w6
                  · rw [w4, ← ej]; exact w8
              | succ t iht =>
                intro j X1 Y1 hj kp hq pk e0 hJ
                have hjT : j < 2 ^ nD s := by omega
                have hcl := cnt_le j
                have skip : ∀ X1 Y1, Kp b X X1 Y Y1 → Qw CK S76 S2 X1 Y1 s → DbV X1 s → X1 76 0 = nI 0 → fwI (goodX s) (2 ^ nD s) m j 76 X1 → (goodX s j → cnt j ≠ m) → hX8_findLies_74 Q' b (nI (nD s)) (nI m) (nI (j + 1)) X1 Y1 := by
                  intro X1 Y1 kp hq pk e0 hJ hne
                  refine iht (j + 1) X1 Y1 (by omega) kp hq pk e0 ⟨fun S hS hg => ?_, hJ.2.imp id (fun ⟨w, w1, w2, w3, w4, w5, w6, w7, w8⟩ => ⟨w, by omega, w2, w3, w4, w5, w6, w7, ?_⟩)⟩
                  · rcases hJ.1 S hS hg with y | ⟨y1, y2⟩
                    · exact Or.inl y
                    · refine Or.inr ⟨y1, fun y => ?_⟩
                      have := y2 y
                      by_cases e : S = j
                      · subst e; exact absurd y1 (hne hg)
                      · omega
                  · rw [w8]
                    simp only [gSz]
                    rw [if_neg (fun y => hne y.1 y.2)]; rfl
                apply hX8_findLies_74_i
                simp (disch := omega) only [m_0, m_L0, m_lt, m_le, m_eq, m_neg, m_in, m_clamp, m_add, m_sub, m_pred, m_mul, m_l, m_i, m_Land, m_Lor, m_and, m_or, m_xor, m_Landn, m_andn, m_LshlP, m_shl, m_LbitP, m_bit, m_cmp0P, m_Lb0, m_Lb1, m_b0, m_b1, Nat.one_mul]
                refine ⟨fun h => by omega, fun _ => bc32 (by omega) (cK1_mk ?_)⟩
                simp (disch := omega) only [m_0, m_L0, m_lt, m_le, m_eq, m_neg, m_in, m_clamp, m_add, m_sub, m_pred, m_mul, m_l, m_i, m_Land, m_Lor, m_and, m_or, m_xor, m_Landn, m_andn, m_LshlP, m_shl, m_LbitP, m_bit, m_cmp0P, m_Lb0, m_Lb1, m_b0, m_b1, Nat.one_mul]
                refine ⟨fun hne => skip X1 Y1 kp hq pk e0 hJ (fun _ => hne), fun he => ?_⟩
                have he := Classical.not_not.mp he
                refine Q8_without hq pk hjT (fun z X5 Y5 sc5 hq5 pk5 hz => cK1_mk ⟨fun q2 => ?_, fun q2 => ?_⟩)
                · have e76 : X5 76 = X1 76 := sc5.x (by omega) (by decide)
                  refine skip X5 Y5 (kp.trans sc5.kp) hq5 pk5 (by rw [e76]; exact e0) ?_ (fun y => by rw [hz.mpr y] at q2; exact absurd q2 (by decide))
                  unfold fwI; rw [e76]; exact hJ
                · have hg : goodX s j := hz.mp (z11 q2)
                  have e76 : X5 76 = X1 76 := sc5.x (by omega) (by decide)
                  have hJ5 : fwI (goodX s) (2 ^ nD s) m j 76 X5 := by unfold fwI; rw [e76]; exact hJ
                  have e05 : X5 76 0 = nI 0 := by rw [e76]; exact e0
                  have gj : gSz (fun S => goodX s S ∧ cnt S = m) (j + 1) = gSz (fun S => goodX s S ∧ cnt S = m) j + 1 := by
                    simp only [gSz]; rw [if_pos ⟨hg, he⟩]
                  have bj := gSz_bd (P := fun S => goodX s S ∧ cnt S = m) (n := j)
                  have put : ∀ X3 : HX, X3 0 0 = nI 0 → (∃ w, w < j + 1 ∧ w < 2 ^ nD s ∧ goodX s w ∧ cnt w = m ∧ (∀ S, S < 2 ^ nD s → goodX s S → cnt S = m → w ≤ S) ∧ X3 0 2 = nI m ∧ X3 0 3 = nI w ∧ X3 0 1 = nI (gSz (fun S => goodX s S ∧ cnt S = m) (j + 1))) → hX8_findLies_74 Q' b (nI (nD s)) (nI m) (nI (j + 1)) (mg [76] (LX8 b).length X5 X3) (mg [76] (LX8 b).length Y5 (sb [76] Y5)) := by
                    intro X3 z0 ⟨w, w1, w2, w3, w4, w5, w6, w7, w8⟩
                    obtain ⟨m1, m2⟩ := mg1 (b := b) (X := X5) (c0 := 76) (X3 := X3) (by omega)
                    have my : ∀ c, c < nC8 b → mg [76] (LX8 b).length Y5 (sb [76] Y5) c = Y5 c := fun c hc => mg_sb hc
                    refine iht (j + 1) _ _ (by omega) ((kp.trans sc5.kp).trans (fun c hc hd => ⟨m1 c hc (by omega), my c hc⟩)) (hq5.c76 (fun c hc hd => m1 c (by omega) hd) (fun c hc => my c (by omega)) (Or.inl (by rw [m2]; exact z0))) (fun i hi => by rw [m1 78 (by omega) (by omega)]; exact pk5 i hi) (by rw [m2]; exact z0) ⟨fun S hS hgS => ?_, Or.inr ⟨w, w1, w2, w3, w4, w5, by rw [m2]; exact w6, by rw [m2]; exact w7, by rw [m2]; exact w8⟩⟩
                    rcases hJ5.1 S hS hgS with y | ⟨y1, y2⟩
                    · exact Or.inl y
                    · refine Or.inr ⟨y1, fun y => ?_⟩
                      rw [m2, w8, m_eq (by have := gSz_bd (P := fun S => goodX s S ∧ cnt S = m) (n := j + 1); omega) (by omega)] at y
                      have := gSz_1 (P := fun S => goodX s S ∧ cnt S = m) w1 ⟨w3, w4⟩
                      omega
                  apply tX2_add_i
                  refine ⟨fun y => cS0_mk (put _ (by rw [up2_idx (by omega)]; exact e05) ?_), fun y => cS0_mk (put _ (by rw [up2_idx (by omega), up2_idx (by omega), up2_idx (by omega)]; exact e05) ?_)⟩
                  · have y' : ¬ X5 76 1 = nI 0 := y
                    rcases hJ5.2 with z9 | ⟨w, w1, w2, w3, w4, w5, w6, w7, w8⟩
                    · exact absurd z9 y'
                    · refine ⟨w, by omega, w2, w3, w4, w5, by rw [up2_idx (by omega)]; exact w6, by rw [up2_idx (by omega)]; exact w7, ?_⟩
                      rw [up2_same, gj]
                      have : sb [76] X5 0 1 = nI (gSz (fun S => goodX s S ∧ cnt S = m) j) := w8
                      rw [this, m_add]
                  · have y' : X5 76 1 = nI 0 := Classical.not_not.mp y
                    refine ⟨j, by omega, hjT, hg, he, fun S hS hgS hc => ?_, ?_, ?_, ?_⟩
                    · rcases hJ5.1 S hS hgS with z9 | ⟨_, z9⟩
                      · omega
                      · exact z9 y'
                    · rw [up2_idx (by omega), up2_idx (by omega), up2_same]
                    · rw [up2_idx (by omega), up2_same]
                    · rw [up2_same, up2_idx (by omega), up2_idx (by omega), gj]
                      have n0 : gSz (fun S => goodX s S ∧ cnt S = m) j = 0 := by
                        have h9 : gSz (fun S => goodX s S ∧ cnt S = m) j ≤ gSz (fun S => S < j ∧ False) j := by
                          have key : ∀ i, i ≤ j → gSz (fun S => goodX s S ∧ cnt S = m) i = 0 := by
                            intro i
                            induction i with
                            | zero => intro _; rfl
                            | succ i ihi =>
                              intro hi
                              simp only [gSz]
                              rw [ihi (by omega), if_neg (fun y => by
                                rcases hJ5.1 i (by omega) y.1 with z9 | ⟨_, z9⟩
                                · omega
                                · have := z9 y'; omega)]
                          rw [key j (Nat.le_refl _)]; omega
                        have := gSz_no (P := fun S => S < j ∧ False) (fun v q => q.2) (n := j)
                        omega
                      have : sb [76] X5 0 1 = nI 0 := y'
                      rw [n0, this, m_add]
            exact G _ 0 X1 Y1 (Nat.zero_add _) kp hq pk e0 ⟨fun S hS hg => by
              have := hI S hS hg
              by_cases e : cnt S = m
              · exact Or.inr ⟨e, fun _ => Nat.zero_le _⟩
              · exact Or.inl (by omega), Or.inl z⟩
      -- who is doubted
      have go : ∀ X1 Y1, Kp b X X1 Y Y1 → Qw CK S76 S2 X1 Y1 s → DbV X1 s → X1 76 0 = nI 0 → tX2_begin [.ref 0] (LX2 ++ []) (sb [76] X1) (sb [76] Y1) (cS0 (LX2 ++ []) (LX8 b) [76] (LX8 b).length X1 Y1 Q' (fun X2 Y2 => hX8_findLies_57 Q' b (nI (nD s)) (nI 0) X2 Y2)) := by
        intro X1 Y1 kp hq hD e0
        apply tX2_begin_i
        refine cS0_mk ?_
        obtain ⟨m1, m2⟩ := mg1 (b := b) (X := X1) (c0 := 76) (X3 := up2 (up2 (up2 (sb [76] X1) 0 2 (-1)) 0 3 (-1)) 0 1 (nI 0)) (by omega)
        have my : ∀ c, c < nC8 b → mg [76] (LX8 b).length Y1 (sb [76] Y1) c = Y1 c := fun c hc => mg_sb hc
        revert m1 m2 my
        generalize mg [76] (LX8 b).length X1 (up2 (up2 (up2 (sb [76] X1) 0 2 (-1)) 0 3 (-1)) 0 1 (nI 0)) = X2
        generalize mg [76] (LX8 b).length Y1 (sb [76] Y1) = Y2
        intro m1 m2 my
        have f0 : X2 76 0 = nI 0 := by rw [m2, up2_idx (by omega), up2_idx (by omega), up2_idx (by omega)]; exact e0
        have f1 : X2 76 1 = nI 0 := by rw [m2, up2_same]
        exact H _ 0 X2 Y2 (Nat.zero_add _) (kp.trans (fun c hc hd => ⟨m1 c hc (by omega), my c hc⟩)) (hq.c76 (fun c hc hd => m1 c (by omega) hd) (fun c hc => my c (by omega)) (Or.inl f0)) (fun i hi => by rw [m1 78 (by omega) (by omega)]; exact hD i hi) f0 (Or.inl ⟨f1, fun S _ _ => Nat.zero_le _⟩)
      have Z : ∀ t j X1 Y1, j + t = sN s → Kp b X X1 Y Y1 → Qw CK S76 S2 X1 Y1 s → X1 76 0 = nI 0 → (∀ i, i < (dbj s j).length → X1 78 i = nI ((dbj s j).getD i 0)) → hX8_findLies_4 Q' b (nI (dbj s j).length) (nI j) X1 Y1 := by
        intro t
        induction t with
        | zero =>
          intro j X1 Y1 hj kp hq e0 hI
          have ej : j = sN s := by omega
          subst ej
          apply hX8_findLies_4_i
          rw [hq.bv.2.1]
          simp (disch := omega) only [m_0, m_L0, m_lt, m_le, m_eq, m_neg, m_in, m_clamp, m_add, m_sub, m_pred, m_mul, m_l, m_i, m_Land, m_Lor, m_and, m_or, m_xor, m_Landn, m_andn, m_LshlP, m_shl, m_LbitP, m_bit, m_cmp0P, m_Lb0, m_Lb1, m_b0, m_b1, Nat.one_mul]
          exact ⟨fun _ => go X1 Y1 kp hq hI e0, fun h => by omega⟩
        | succ t ih =>
          intro j X1 Y1 hj kp hq e0 hI
          have hjN : j < sN s := by omega
          have l10 := dbj_len s j
          apply hX8_findLies_4_i
          rw [hq.bv.2.1]
          simp (disch := omega) only [m_0, m_L0, m_lt, m_le, m_eq, m_neg, m_in, m_clamp, m_add, m_sub, m_pred, m_mul, m_l, m_i, m_Land, m_Lor, m_and, m_or, m_xor, m_Landn, m_andn, m_LshlP, m_shl, m_LbitP, m_bit, m_cmp0P, m_Lb0, m_Lb1, m_b0, m_b1, Nat.one_mul]
          refine ⟨fun h => by omega, fun _ => ⟨fun h10 => ?_, fun h10 => ?_⟩⟩
          · have e : dbL s = dbj s j := by
              have := dbj_stop (s := s) (j := j) h10 (t + 1)
              unfold dbL
              rw [← this]; congr 1; omega
            have en : (dbj s j).length = nD s := by unfold nD; rw [e]
            rw [en]
            exact go X1 Y1 kp hq (fun i hi => by unfold dbA; rw [e]; exact hI i (by omega)) e0
          · apply tX0_isInForce_i
            have q3 := hq.2.2.2.1
            have hq3 : sb [9, 10, 11, 12, 13, 14, 15, 16] Y1 0 2 = lN (fm s) := q3
            have hfm := fm_lt hq.si
            have e := Eq8.mg (b := b) (X := X1) (Y := Y1) [9, 10, 11, 12, 13, 14, 15, 16]
            have e78 : mg [9, 10, 11, 12, 13, 14, 15, 16] (LX8 b).length X1 (sb [9, 10, 11, 12, 13, 14, 15, 16] X1) 78 = X1 78 := mg_out (by show 78 < nC8 b; omega) (by decide)
            have e76 : mg [9, 10, 11, 12, 13, 14, 15, 16] (LX8 b).length X1 (sb [9, 10, 11, 12, 13, 14, 15, 16] X1) 76 = X1 76 := mg_out (by show 76 < nC8 b; omega) (by decide)
            simp (disch := omega) only [m_0, m_L0, m_lt, m_le, m_eq, m_neg, m_in, m_clamp, m_add, m_sub, m_pred, m_mul, m_l, m_i, m_Land, m_Lor, m_and, m_or, m_xor, m_Landn, m_andn, m_LshlP, m_shl, m_LbitP, m_bit, m_cmp0P, m_Lb0, m_Lb1, m_b0, m_b1, Nat.one_mul, hq3]
            refine ⟨fun hb => ⟨(by first | exact Or.inl rfl | exact Or.inr rfl | exact Or.inl trivial | exact Or.inr trivial), cS1_mk ⟨fun _ => ?_, fun q => absurd rfl q⟩⟩, fun hb => ⟨(by first | exact Or.inl rfl | exact Or.inr rfl | exact Or.inl trivial | exact Or.inr trivial), cS1_mk ⟨fun q => absurd q (by decide), fun _ => ⟨by omega, ?_⟩⟩⟩⟩
            · have hf : sFo s j = false := by rw [← fm_bit hjN]; exact hb
              have ed : dbj s (j + 1) = dbj s j := by simp [dbj, hf]
              have h9 := ih (j + 1) _ _ (by omega) (kp.trans e.kp) (hq.scr e.scr) (by rw [e76]; exact e0) (by rw [ed, e78]; exact hI)
              rw [ed] at h9; exact h9
            · have hf : sFo s j = true := by rw [← fm_bit hjN]; exact nz_nz hb
              have ed : dbj s (j + 1) = dbj s j ++ [j] := by simp only [dbj]; rw [if_pos ⟨hf, by omega⟩]
              have el : (dbj s (j + 1)).length = (dbj s j).length + 1 := by rw [ed]; simp
              have sc : Scr b (mg [9, 10, 11, 12, 13, 14, 15, 16] (LX8 b).length X1 (sb [9, 10, 11, 12, 13, 14, 15, 16] X1)) (up2 (mg [9, 10, 11, 12, 13, 14, 15, 16] (LX8 b).length X1 (sb [9, 10, 11, 12, 13, 14, 15, 16] X1)) 78 (dbj s j).length (nI j)) (mg [9, 10, 11, 12, 13, 14, 15, 16] (LX8 b).length Y1 (sb [9, 10, 11, 12, 13, 14, 15, 16] Y1)) (mg [9, 10, 11, 12, 13, 14, 15, 16] (LX8 b).length Y1 (sb [9, 10, 11, 12, 13, 14, 15, 16] Y1)) := ⟨fun c hc hd => up2_row (fun e => hd (by subst e; decide)), up2_out (by omega), up2_out (by omega), fun _ _ _ => rfl⟩
              have h9 := ih (j + 1) _ _ (by omega) ((kp.trans e.kp).trans sc.kp) ((hq.scr e.scr).scr sc) (by rw [up2_out (by omega), e76]; exact e0) (fun i hi => by
                rw [el] at hi
                rw [ed, List.getD_eq_getElem?_getD]
                by_cases ei : i = (dbj s j).length
                · subst ei
                  rw [up2_same, List.getElem?_append_right (Nat.le_refl _), Nat.sub_self]; rfl
                · rw [up2_idx ei, e78, List.getElem?_append_left (by omega), ← List.getD_eq_getElem?_getD]
                  exact hI i (by omega))
              rw [el] at h9
              exact h9
      exact Z _ 0 X Y (Nat.zero_add _) Kp.rfl h q3 (fun i hi => by simp [dbj] at hi)
  · have k' := k _ _ Kp.rfl h
    unfold aLies at k'
    rw [cif_y (Or.inr q2)] at k'; exact k'
end Lies8
