/-! the fewest that would do; those left out; checks; THE THREE by the reference -/
def fwN (good : Nat → Prop) (w j : Nat) : Nat → Prop := fun S => good S ∧ cnt S = cnt w
noncomputable def fewA (good : Nat → Prop) (N : Nat) (p : Int32) : Int32 := cif (∃ w, lsP good N w) (if p = 0 then nI (cnt (Classical.epsilon (lsP good N))) else if p = nI 1 then nI (Classical.epsilon (lsP good N)) else nI (gSz (fun S => good S ∧ cnt S = cnt (Classical.epsilon (lsP good N))) N)) (-1)
theorem fewA_n {good : Nat → Prop} {N : Nat} {p : Int32} (h : ∀ S, S < N → ¬ good S) : fewA good N p = -1 := cif_n (fun ⟨w, q⟩ => h w q.1 q.2.1)
theorem fewA_y {good : Nat → Prop} {N w : Nat} {p : Int32} (h : lsP good N w) : fewA good N p = if p = 0 then nI (cnt w) else if p = nI 1 then nI w else nI (gSz (fun S => good S ∧ cnt S = cnt w) N) := by
  unfold fewA
  rw [cif_y ⟨w, h⟩, eps_uq h (fun _ hy => lsP_uq hy h)]
/-- Fewest, as the class has it -/
def fwP (good : Nat → Prop) (N c : Nat) (X : HX) : Prop := (X c 1 = nI 0 ∧ ∀ S, S < N → ¬ good S) ∨ ∃ w, lsP good N w ∧ w < 2147483648 ∧ X c 2 = nI (cnt w) ∧ X c 3 = nI w ∧ X c 1 = nI (gSz (fun S => good S ∧ cnt S = cnt w) N)
theorem gSz_1 {P : Nat → Prop} {N w : Nat} (hw : w < N) (h : P w) : 0 < gSz P N := by
  have := gSz_lt (P := fun _ => False) (P' := P) (n := N) (fun _ q => q.elim) hw h (fun q => q)
  omega
theorem X2_tell_s {Q : Qt} {r : Ly} {X : HX} {Y : HY} {good : Nat → Prop} {N : Nat} {p : Int32} (hN : N < 2147483648) (h : fwP good N 0 X) (k : Q (rI (fewA good N p)) (LX2 ++ r) X Y) : tX2_tell [.ref 0, .int p] (LX2 ++ r) X Y Q := by
  apply tX2_tell_i
  rcases h with ⟨h1, h2⟩ | ⟨w, hw, hw2, h1, h2, h3⟩
  · rw [fewA_n h2] at k
    rw [h1]
    exact ⟨fun q => absurd rfl q, fun _ => k⟩
  · rw [fewA_y hw] at k
    have b1 := gSz_bd (P := fun S => good S ∧ cnt S = cnt w) (n := N)
    have b2 := gSz_1 (P := fun S => good S ∧ cnt S = cnt w) hw.1 ⟨hw.2.1, rfl⟩
    rw [h1, h2, h3]
    refine ⟨fun _ => ⟨fun q1 => ⟨fun q2 => ?_, fun q2 => ?_⟩, fun q1 => ?_⟩, fun q => absurd (fun e => by
      have e' : nI (gSz (fun S => good S ∧ cnt S = cnt w) N) = nI 0 := e
      rw [m_eq (by omega) (by omega)] at e'; omega) q⟩
    · rw [if_neg q1, if_neg q2] at k; exact k
    · rw [if_neg q1, if_pos (Classical.not_not.mp q2)] at k; exact k
    · rw [if_pos (Classical.not_not.mp q1)] at k; exact k
def goodL (s : St) (S : Nat) : Prop := cnB (Ms s) (nAn (2 ^ sG s - 1) S)
noncomputable def aLeave (s : St) (p : Int32) : Rs := cif (p < 0 ∨ ¬ p ≤ nI 2) (.inr XN) (rI (fewA (goodL s) (2 ^ sG s) p))
/-- those left out, once they are known -/
def S77 (X : HX) (s : St) : Prop := fwP (goodL s) (2 ^ sG s) 77 X
theorem S77_in : InC 77 77 S77 := fun X X' s e h => by
  unfold S77 fwP at h ⊢
  rw [e 77 (by omega) (by omega)]; exact h
/-- so far, at so many and so far on -/
def fwI (good : Nat → Prop) (N m j c : Nat) (X : HX) : Prop := (∀ S, S < N → good S → m < cnt S ∨ (cnt S = m ∧ (X c 1 = nI 0 → j ≤ S))) ∧ (X c 1 = nI 0 ∨ ∃ w, w < j ∧ w < N ∧ good w ∧ cnt w = m ∧ (∀ S, S < N → good S → cnt S = m → w ≤ S) ∧ X c 2 = nI m ∧ X c 3 = nI w ∧ X c 1 = nI (gSz (fun S => good S ∧ cnt S = m) j))
section Few8
variable {S1 CK : HX → St → Prop} {X X' : HX} {Y Y' : HY} {s : St} {b : Bool} {Q : Qt}
theorem Qw.c77 (h : Qw CK S1 S77 X Y s) (ex : ∀ c, c < 79 → c ≠ 77 → X' c = X c) (ey : ∀ c, c < 79 → Y' c = Y c) (f : Fl X' 77 0 (S77 X' s)) : Qw CK S1 S77 X' Y' s := by
  obtain ⟨⟨hC, h1, h2⟩, q1, q2, q3, q4, q5, q6, q7, q8, q9, q10, q11⟩ := h
  have xx : ∀ c i, c < 79 → c ≠ 77 → X' c i = X c i := fun c i hc hd => by rw [ex c hc hd]
  refine ⟨⟨hC, h1, h2⟩, q1, q2.of (fun c z1 z2 => ex c (by omega) (by omega)), by rw [ey 9 (by omega)]; exact q3, ⟨by rw [xx 33 2 (by omega) (by omega)]; exact q4.1, by rw [xx 37 2 (by omega) (by omega)]; exact q4.2⟩, ?_, ?_, ?_, ?_, ?_, ?_, f⟩
  · intro k hk
    have : sb S41 X' 4 = sb S41 X 4 := ex 45 (by omega) (by omega)
    rw [this]; exact q5 k hk
  · exact q6.mono (xx _ _ (by omega) (by omega)) (fun z => z.of (xx _ _ (by omega) (by omega)) (ex _ (by omega) (by omega)) (ex _ (by omega) (by omega)) (ex _ (by omega) (by omega)) (ey _ (by omega)))
  · exact q7.mono (xx _ _ (by omega) (by omega)) (fun z => ⟨by rw [xx 25 3 (by omega) (by omega)]; exact z.1, z.2.of (xx _ _ (by omega) (by omega)) (fun c z1 z2 => ex c (by omega) (by omega))⟩)
  · exact q8.mono (xx _ _ (by omega) (by omega)) (fun z => ⟨by rw [xx 41 4 (by omega) (by omega)]; exact z.1, z.2.of (xx _ _ (by omega) (by omega)) (fun c z1 z2 => ex c (by omega) (by omega))⟩)
  · exact q9.mono (xx _ _ (by omega) (by omega)) (fun z => ⟨by rw [xx 41 4 (by omega) (by omega)]; exact z.1, hC X X' s (fun c z1 z2 => ex c (by omega) (by omega)) z.2⟩)
  · exact q10.mono (xx _ _ (by omega) (by omega)) (fun z => h1 X X' s (fun c z1 z2 => ex c (by omega) (by omega)) z)
theorem PKo.c7 {c0 : Nat} (h : PKo X Y s) (hc : 29 ≤ c0) (ex : ∀ c, c < 79 → c ≠ c0 → X' c = X c) (ey : ∀ c, c < 79 → Y' c = Y c) : PKo X' Y' s := h.of (by rw [ex 25 (by omega) (by omega)]) (ex 26 (by omega) (by omega)) (ex 27 (by omega) (by omega)) (ex 28 (by omega) (by omega)) (ey 34 (by omega))
theorem m_and64 {u F : Nat} (hF : F < 2147483648) : (nI u).toInt64 &&& lN F = lN (u &&& F) := by
  apply Int64.toBitVec_inj.mp
  apply BitVec.eq_of_getLsbD_eq
  intro i hi
  have hf : ¬ i < 31 → F.testBit i = false := fun h => Nat.testBit_lt_two_pow (Nat.lt_of_lt_of_le (show F < 2 ^ 31 from hF) (Nat.pow_le_pow_right (by omega) (by omega)))
  simp only [Int64.toBitVec_and, Int32.toBitVec_toInt64, BitVec.getLsbD_and, BitVec.getLsbD_signExtend, lN, nI, Int64.toBitVec_ofNat', Int32.toBitVec_ofNat', BitVec.getLsbD_ofNat, Nat.testBit_and]
  by_cases h : i < 31
  · have : i < 32 := by omega
    simp [hi, this]
  · simp [hf h]
theorem m_andn64 {u F : Nat} (hF : F < 2147483648) : lN F &&& (nI u ^^^ (-1)).toInt64 = lN (nAn F u) := by
  rw [m_Im1, m_xor, Int64.and_comm, m_and64 hF]
  refine m_extL (fun i hi => ?_)
  rw [Nat.testBit_and, Nat.testBit_xor, nAn_bit]
  by_cases h : i < 31
  · rw [m_all32 i (by omega)]; cases u.testBit i <;> cases F.testBit i <;> rfl
  · have : F.testBit i = false := Nat.testBit_lt_two_pow (Nat.lt_of_lt_of_le (show F < 2 ^ 31 from hF) (Nat.pow_le_pow_right (by omega) (by omega)))
    rw [this]; simp
/-- one cell of its own -/
theorem mg1 {c0 : Nat} {X3 : HX} (hc : c0 < nC8 b) : (∀ c, c < nC8 b → c ≠ c0 → mg [c0] (LX8 b).length X X3 c = X c) ∧ mg [c0] (LX8 b).length X X3 c0 = X3 0 := by
  have ln : (LX8 b).length = nC8 b := rfl
  rw [ln]
  exact ⟨fun c h1 h2 => mg_out h1 (by simpa using h2), mg_in 0 hc (by simp) (by simp)⟩
theorem X8_leave_s {p : Int32} (h : Qw CK S1 S77 X Y s) (k : ∀ X' Y', Kp b X X' Y Y' → Qw CK S1 S77 X' Y' s → Q (aLeave s p) (LX8 b) X' Y') : tX8_leave b [.ref 0, .int p] (LX8 b) X Y Q := by
  have n79 := nC8_79 b
  have g9 := h.si.1
  have hT := pw9 g9
  have ln : (LX8 b).length = nC8 b := rfl
  apply tX8_leave_i
  refine ⟨fun q => ?_, fun q => ⟨fun q2 => ?_, fun q2 => ?_⟩⟩
  · have k' := k _ _ Kp.rfl h
    unfold aLeave at k'
    rw [cif_y (Or.inl q)] at k'; exact k'
  · have hn : ¬ (p < 0 ∨ ¬ p ≤ nI 2) := fun y => y.elim q (fun y => y q2)
    -- known
    have tell : ∀ X1 Y1, Kp b X X1 Y Y1 → Qw CK S1 S77 X1 Y1 s → X1 77 0 = nI 1 → tX2_tell [.ref 0, .int p] (LX2 ++ []) (sb [77] X1) (sb [77] Y1) (cS1 (LX2 ++ []) (LX8 b) [77] (LX8 b).length X1 Y1 Q (fun x4 X4 Y4 => Q (.inl (some (.int x4))) (LX8 b) X4 Y4)) := by
      intro X1 Y1 kp hq e1
      have hf : fwP (goodL s) (2 ^ sG s) 77 X1 := Fl.get hq.2.2.2.2.2.2.2.2.2.2.2 e1
      refine X2_tell_s (by omega) hf (cS1_mk ?_)
      have e := Eq8.mg (b := b) (X := X1) (Y := Y1) [77]
      have k' := k _ _ (kp.trans e.kp) (hq.scr e.scr)
      unfold aLeave at k'
      rw [cif_n hn] at k'; exact k'
    refine ⟨fun q3 => ?_, fun q3 => ?_⟩
    · refine tell X Y Kp.rfl h ?_
      rcases h.2.2.2.2.2.2.2.2.2.2.2 with z | z
      · exact absurd z q3
      · exact z.1
    · have q3 : X 77 0 = nI 0 := Classical.not_not.mp q3
      apply tX8_findLeftOut_i
      refine X8_pairs_s h.1.1 h.1.2.1 h.1.2.2 h.2 (fun X1 Y1 kp fr hv _ pk => cK0_mk ?_)
      have hq : Qw CK S1 S77 X1 Y1 s := ⟨h.1, hv⟩
      have e0 : X1 77 0 = nI 0 := by rw [(fr 77 (by omega) (by omega)).1]; exact q3
      apply tX2_begin_i
      refine cS0_mk ?_
      obtain ⟨m1, m2⟩ := mg1 (b := b) (X := X1) (c0 := 77) (X3 := up2 (up2 (up2 (sb [77] X1) 0 2 (-1)) 0 3 (-1)) 0 1 (nI 0)) (by omega)
      have my : ∀ c, c < nC8 b → mg [77] (LX8 b).length Y1 (sb [77] Y1) c = Y1 c := fun c hc => mg_sb hc
      revert m1 m2 my
      generalize mg [77] (LX8 b).length X1 (up2 (up2 (up2 (sb [77] X1) 0 2 (-1)) 0 3 (-1)) 0 1 (nI 0)) = X2
      generalize mg [77] (LX8 b).length Y1 (sb [77] Y1) = Y2
      intro m1 m2 my
      have f0 : X2 77 0 = nI 0 := by rw [m2, up2_idx (by omega), up2_idx (by omega), up2_idx (by omega)]; exact e0
      have f1 : X2 77 1 = nI 0 := by rw [m2, up2_same]
      have kp2 : Kp b X X2 Y Y2 := kp.trans (fun c hc hd => ⟨m1 c hc (by omega), my c hc⟩)
      have hq2 : Qw CK S1 S77 X2 Y2 s := hq.c77 (fun c hc hd => m1 c (by omega) hd) (fun c hc => my c (by omega)) (Or.inl f0)
      have pk2 : PKo X2 Y2 s := pk.c7 (c0 := 77) (by omega) (fun c hc hd => m1 c (by omega) hd) (fun c hc => my c (by omega))
      have done : ∀ X1 Y1, Kp b X X1 Y Y1 → Qw CK S1 S77 X1 Y1 s → fwP (goodL s) (2 ^ sG s) 77 X1 → cK0 (LX8 b) Q (fun X5 Y5 => tX2_tell [.ref 0, .int p] (LX2 ++ []) (sb [77] X5) (sb [77] Y5) (cS1 (LX2 ++ []) (LX8 b) [77] (LX8 b).length X5 Y5 Q (fun x6 X6 Y6 => Q (.inl (some (.int x6))) (LX8 b) X6 Y6))) (.inl none) (LX8 b) (up2 X1 77 0 (nI 1)) Y1 := by
        intro X1 Y1 kp hq hf
        refine cK0_mk (tell _ _ (kp.trans (fun c hc hd => ⟨up2_row (by omega), rfl⟩)) (hq.c77 (fun c hc hd => up2_row hd) (fun _ _ => rfl) (Or.inr ⟨up2_same, ?_⟩)) up2_same)
        unfold S77 fwP at *
        rw [up2_idx (by omega), up2_idx (by omega), up2_idx (by omega)]; exact hf
      revert done
      generalize (cK0 (LX8 b) Q (fun X5 Y5 => tX2_tell [.ref 0, .int p] (LX2 ++ []) (sb [77] X5) (sb [77] Y5) (cS1 (LX2 ++ []) (LX8 b) [77] (LX8 b).length X5 Y5 Q (fun x6 X6 Y6 => Q (.inl (some (.int x6))) (LX8 b) X6 Y6)))) = Q'
      intro done
      have H : ∀ n m X1 Y1, m + n = sG s + 1 → Kp b X X1 Y Y1 → Qw CK S1 S77 X1 Y1 s → PKo X1 Y1 s → X1 77 0 = nI 0 → ((X1 77 1 = nI 0 ∧ ∀ S, S < 2 ^ sG s → goodL s S → m ≤ cnt S) ∨ (¬ X1 77 1 = nI 0 ∧ fwP (goodL s) (2 ^ sG s) 77 X1)) → hX8_findLeftOut_13 Q' b (nI m) X1 Y1 := by
        intro n
        induction n with
        | zero =>
          intro m X1 Y1 hm kp hq pk e0 hI
          apply hX8_findLeftOut_13_i
          rw [hq.bv.1]
          simp (disch := omega) only [m_0, m_L0, m_lt, m_le, m_eq, m_neg, m_in, m_clamp, m_add, m_sub, m_pred, m_mul, m_l, m_i, m_Land, m_Lor, m_and, m_or, m_xor, m_Landn, m_andn, m_LshlP, m_shl, m_LbitP, m_bit, m_cmp0P, m_Lb0, m_Lb1, m_b0, m_b1, Nat.one_mul]
          refine ⟨fun _ => ⟨(by first | exact Or.inl rfl | exact Or.inr rfl | exact Or.inl trivial | exact Or.inr trivial), done X1 Y1 kp hq ?_⟩, fun h => by omega⟩
          rcases hI with ⟨i1, i2⟩ | ⟨i1, i2⟩
          · exact Or.inl ⟨i1, fun S hS hg => by have := i2 S hS hg; have := cnt_G g9 hS; omega⟩
          · exact i2
        | succ n ih =>
          intro m X1 Y1 hm kp hq pk e0 hI
          apply hX8_findLeftOut_13_i
          rw [hq.bv.1]
          simp (disch := omega) only [m_0, m_L0, m_lt, m_le, m_eq, m_neg, m_in, m_clamp, m_add, m_sub, m_pred, m_mul, m_l, m_i, m_Land, m_Lor, m_and, m_or, m_xor, m_Landn, m_andn, m_LshlP, m_shl, m_LbitP, m_bit, m_cmp0P, m_Lb0, m_Lb1, m_b0, m_b1, Nat.one_mul]
          refine ⟨fun h => by omega, fun _ => ⟨fun z => ⟨(by first | exact Or.inl rfl | exact Or.inr rfl | exact Or.inl trivial | exact Or.inr trivial), done X1 Y1 kp hq ?_⟩, fun z => ?_⟩⟩
          · rcases hI with ⟨i1, i2⟩ | ⟨i1, i2⟩
            · exact absurd i1 z
            · exact i2
          · have z := Classical.not_not.mp z
            have hI : ∀ S, S < 2 ^ sG s → goodL s S → m ≤ cnt S := by
              rcases hI with ⟨i1, i2⟩ | ⟨i1, i2⟩
              · exact i2
              · exact absurd z i1
            have G : ∀ t j X1 Y1, j + t = 2 ^ sG s → Kp b X X1 Y Y1 → Qw CK S1 S77 X1 Y1 s → PKo X1 Y1 s → X1 77 0 = nI 0 → fwI (goodL s) (2 ^ sG s) m j 77 X1 → hX8_findLeftOut_36 Q' b (nI m) (nI j) X1 Y1 := by
              intro t
              induction t with
              | zero =>
                intro j X1 Y1 hj kp hq pk e0 hJ
                have ej : j = 2 ^ sG s := by omega
                apply hX8_findLeftOut_36_i
                rw [hq.bv.1]
                simp (disch := omega) only [m_0, m_L0, m_lt, m_le, m_eq, m_neg, m_in, m_clamp, m_add, m_sub, m_pred, m_mul, m_l, m_i, m_Land, m_Lor, m_and, m_or, m_xor, m_Landn, m_andn, m_LshlP, m_shl, m_LbitP, m_bit, m_cmp0P, m_Lb0, m_Lb1, m_b0, m_b1, Nat.one_mul]
                refine ⟨fun _ => ih (m + 1) X1 Y1 (by omega) kp hq pk e0 ?_, fun h => by omega⟩
                obtain ⟨j1, j2⟩ := hJ
                rcases j2 with j2 | ⟨w, w1, w2, w3, w4, w5, w6, w7, w8⟩
                · left
                  refine ⟨j2, fun S hS hg => ?_⟩
                  rcases j1 S hS hg with y | ⟨y1, y2⟩
                  · omega
                  · have := y2 j2; omega
                · right
                  have b1 := gSz_1 (P := fun S => goodL s S ∧ cnt S = m) w1 ⟨w3, w4⟩
                  have b2 := gSz_bd (P := fun S => goodL s S ∧ cnt S = m) (n := j)
                  refine ⟨fun y => by rw [w8, m_eq (by omega) (by omega)] at y; omega, Or.inr ⟨w, ⟨w2, w3, fun S hS hg => ?_⟩, by omega, ?_, w7, ?_⟩⟩
                  · rcases j1 S hS hg with y | ⟨y1, y2⟩
                    · left; omega
                    · right; exact ⟨by omega, w5 S hS hg y1⟩
                  · rw [w4]; exact w6
                  · rw [w4, ← ej]; exact w8
              | succ t iht =>
                intro j X1 Y1 hj kp hq pk e0 hJ
                have hjT : j < 2 ^ sG s := by omega
                have hcl := cnt_le j
                have hnA : nAn (2 ^ sG s - 1) j < 2 ^ sG s := Nat.lt_of_le_of_lt (nAn_le _ _) (full_lt _)
                have skip : ∀ X1 Y1, Kp b X X1 Y Y1 → Qw CK S1 S77 X1 Y1 s → PKo X1 Y1 s → X1 77 0 = nI 0 → fwI (goodL s) (2 ^ sG s) m j 77 X1 → (goodL s j → cnt j ≠ m) → hX8_findLeftOut_36 Q' b (nI m) (nI (j + 1)) X1 Y1 := by
                  intro X1 Y1 kp hq pk e0 hJ hne
                  refine iht (j + 1) X1 Y1 (by omega) kp hq pk e0 ⟨fun S hS hg => ?_, hJ.2.imp id (fun ⟨w, w1, w2, w3, w4, w5, w6, w7, w8⟩ => ⟨w, by omega, w2, w3, w4, w5, w6, w7, ?_⟩)⟩
                  · rcases hJ.1 S hS hg with y | ⟨y1, y2⟩
                    · exact Or.inl y
                    · refine Or.inr ⟨y1, fun y => ?_⟩
                      have := y2 y
                      by_cases e : S = j
                      · subst e; exact absurd y1 (hne hg)
                      · omega
                  · rw [w8]
                    simp only [gSz]
                    rw [if_neg (fun y => hne y.1 y.2)]; rfl
                apply hX8_findLeftOut_36_i
                rw [hq.bv.1]
                simp (disch := omega) only [m_0, m_L0, m_lt, m_le, m_eq, m_neg, m_in, m_clamp, m_add, m_sub, m_pred, m_mul, m_l, m_i, m_Land, m_Lor, m_and, m_or, m_xor, m_Landn, m_andn, m_LshlP, m_shl, m_LbitP, m_bit, m_cmp0P, m_Lb0, m_Lb1, m_b0, m_b1, Nat.one_mul]
                refine ⟨fun h => by omega, fun _ => bc32 (by omega) (cK1_mk ?_)⟩
                simp (disch := omega) only [m_0, m_L0, m_lt, m_le, m_eq, m_neg, m_in, m_clamp, m_add, m_sub, m_pred, m_mul, m_l, m_i, m_Land, m_Lor, m_and, m_or, m_xor, m_Landn, m_andn, m_LshlP, m_shl, m_LbitP, m_bit, m_cmp0P, m_Lb0, m_Lb1, m_b0, m_b1, Nat.one_mul]
                refine ⟨fun hne => skip X1 Y1 kp hq pk e0 hJ (fun _ => hne), fun he => ?_⟩
                have he := Classical.not_not.mp he
                refine Q8_all hq (cK2_mk ?_)
                rw [m_andn64 (by omega)]
                refine Q8_layable hq pk hnA (fun z X5 Y5 sc5 hq5 pk5 hz => ⟨fun q2 => ?_, fun q2 => ?_⟩)
                · have e77 : X5 77 = X1 77 := sc5.x (by omega) (by decide)
                  refine skip X5 Y5 (kp.trans sc5.kp) hq5 pk5 (by rw [e77]; exact e0) ?_ (fun y => by rw [hz.mpr y] at q2; exact absurd q2 (by decide))
                  unfold fwI; rw [e77]; exact hJ
                · have hg : goodL s j := hz.mp (z11 q2)
                  have e77 : X5 77 = X1 77 := sc5.x (by omega) (by decide)
                  have hJ5 : fwI (goodL s) (2 ^ sG s) m j 77 X5 := by unfold fwI; rw [e77]; exact hJ
                  have e05 : X5 77 0 = nI 0 := by rw [e77]; exact e0
                  have gj : gSz (fun S => goodL s S ∧ cnt S = m) (j + 1) = gSz (fun S => goodL s S ∧ cnt S = m) j + 1 := by
                    simp only [gSz]; rw [if_pos ⟨hg, he⟩]
                  have bj := gSz_bd (P := fun S => goodL s S ∧ cnt S = m) (n := j)
                  have put : ∀ X3 : HX, X3 0 0 = nI 0 → (∃ w, w < j + 1 ∧ w < 2 ^ sG s ∧ goodL s w ∧ cnt w = m ∧ (∀ S, S < 2 ^ sG s → goodL s S → cnt S = m → w ≤ S) ∧ X3 0 2 = nI m ∧ X3 0 3 = nI w ∧ X3 0 1 = nI (gSz (fun S => goodL s S ∧ cnt S = m) (j + 1))) → hX8_findLeftOut_36 Q' b (nI m) (nI (j + 1)) (mg [77] (LX8 b).length X5 X3) (mg [77] (LX8 b).length Y5 (sb [77] Y5)) := by
                    intro X3 z0 ⟨w, w1, w2, w3, w4, w5, w6, w7, w8⟩
                    obtain ⟨m1, m2⟩ := mg1 (b := b) (X := X5) (c0 := 77) (X3 := X3) (by omega)
                    have my : ∀ c, c < nC8 b → mg [77] (LX8 b).length Y5 (sb [77] Y5) c = Y5 c := fun c hc => mg_sb hc
                    refine iht (j + 1) _ _ (by omega) ((kp.trans sc5.kp).trans (fun c hc hd => ⟨m1 c hc (by omega), my c hc⟩)) (hq5.c77 (fun c hc hd => m1 c (by omega) hd) (fun c hc => my c (by omega)) (Or.inl (by rw [m2]; exact z0))) (pk5.c7 (c0 := 77) (by omega) (fun c hc hd => m1 c (by omega) hd) (fun c hc => my c (by omega))) (by rw [m2]; exact z0) ⟨fun S hS hgS => ?_, Or.inr ⟨w, w1, w2, w3, w4, w5, by rw [m2]; exact w6, by rw [m2]; exact w7, by rw [m2]; exact w8⟩⟩
                    rcases hJ5.1 S hS hgS with y | ⟨y1, y2⟩
                    · exact Or.inl y
                    · refine Or.inr ⟨y1, fun y => ?_⟩
                      rw [m2, w8, m_eq (by have := gSz_bd (P := fun S => goodL s S ∧ cnt S = m) (n := j + 1); omega) (by omega)] at y
                      have := gSz_1 (P := fun S => goodL s S ∧ cnt S = m) w1 ⟨w3, w4⟩
                      omega
                  apply tX2_add_i
                  refine ⟨fun y => cS0_mk (put _ (by rw [up2_idx (by omega)]; exact e05) ?_), fun y => cS0_mk (put _ (by rw [up2_idx (by omega), up2_idx (by omega), up2_idx (by omega)]; exact e05) ?_)⟩
                  · have y' : ¬ X5 77 1 = nI 0 := y
                    rcases hJ5.2 with z9 | ⟨w, w1, w2, w3, w4, w5, w6, w7, w8⟩
                    · exact absurd z9 y'
                    · refine ⟨w, by omega, w2, w3, w4, w5, by rw [up2_idx (by omega)]; exact w6, by rw [up2_idx (by omega)]; exact w7, ?_⟩
                      rw [up2_same, gj]
                      have : sb [77] X5 0 1 = nI (gSz (fun S => goodL s S ∧ cnt S = m) j) := w8
                      rw [this, m_add]
                  · have y' : X5 77 1 = nI 0 := Classical.not_not.mp y
                    refine ⟨j, by omega, hjT, hg, he, fun S hS hgS hc => ?_, ?_, ?_, ?_⟩
                    · rcases hJ5.1 S hS hgS with z9 | ⟨_, z9⟩
                      · omega
                      · exact z9 y'
                    · rw [up2_idx (by omega), up2_idx (by omega), up2_same]
                    · rw [up2_idx (by omega), up2_same]
                    · rw [up2_same, up2_idx (by omega), up2_idx (by omega), gj]
                      have n0 : gSz (fun S => goodL s S ∧ cnt S = m) j = 0 := by
                        have h9 : gSz (fun S => goodL s S ∧ cnt S = m) j ≤ gSz (fun S => S < j ∧ False) j := by
                          have key : ∀ i, i ≤ j → gSz (fun S => goodL s S ∧ cnt S = m) i = 0 := by
                            intro i
                            induction i with
                            | zero => intro _; rfl
                            | succ i ihi =>
                              intro hi
                              simp only [gSz]
                              rw [ihi (by omega), if_neg (fun y => by
                                rcases hJ5.1 i (by omega) y.1 with z9 | ⟨_, z9⟩
                                · omega
                                · have := z9 y'; omega)]
                          rw [key j (Nat.le_refl _)]; omega
                        have := gSz_no (P := fun S => S < j ∧ False) (fun v q => q.2) (n := j)
                        omega
                      have : sb [77] X5 0 1 = nI 0 := y'
                      rw [n0, this, m_add]
            exact G _ 0 X1 Y1 (Nat.zero_add _) kp hq pk e0 ⟨fun S hS hg => by
              have := hI S hS hg
              by_cases e : cnt S = m
              · exact Or.inr ⟨e, fun _ => Nat.zero_le _⟩
              · exact Or.inl (by omega), Or.inl z⟩
      exact H _ 0 X2 Y2 (Nat.zero_add _) kp2 hq2 pk2 f0 (Or.inl ⟨f1, fun S _ _ => Nat.zero_le _⟩)
  · have k' := k _ _ Kp.rfl h
    unfold aLeave at k'
    rw [cif_y (Or.inr q2)] at k'; exact k'
end Few8
