/-! twice and kind, by the class -/
def twP (s : St) (g : Nat) : Prop := ∃ D, (∀ a, D a ≤ 2) ∧ CL (tE (Eo (Ms s)) g 9 D) (twV (sG s) 9)
noncomputable def aTwice (s : St) (p : Int32) : Rs := cif (isG s p) (rI (iB (twP s p.toNatClampNeg))) (.inr XI)
noncomputable def aKind (s : St) : Rs := rI (cif (layQ s) (cif (clA (clQ s) (nI 0) = -1) (nI 0) (nI 1)) (cif (rdP s) (nI 2) (cif (∃ g, g < sG s ∧ twP s g) (nI 3) (-1))))
section TwM
variable {s : St} {g : Nat}
theorem CL.ext {E : Nat → Nat → Prop} {V V' : Nat → Prop} (h : CL E V) (e : ∀ v, V v ↔ V' v) : CL E V' := by
  have : V = V' := funext fun v => propext (e v)
  rw [← this]; exact h
/-- without it, all can be laid: then with two who met nobody too -/
theorem tw_base (si : SI s) (hg : g < sG s) {A : Nat → Prop} (hA : ∀ v, A v → v = 9 ∨ (v < sG s ∧ ¬ Eo (Ms s) g v)) (h : cnB (Ms s) (nAn (2 ^ sG s - 1) (2 ^ g))) : CL (tE (Eo (Ms s)) g 9 (fun _ => 0)) A := by
  have g9 := si.1
  have fB : ∀ v, Bs (nAn (2 ^ sG s - 1) (2 ^ g)) v ↔ v < sG s ∧ v ≠ g := fun v => by
    show (nAn (2 ^ sG s - 1) (2 ^ g)).testBit v = true ↔ _
    rw [nAn_bit, Nat.testBit_two_pow_sub_one, Nat.testBit_two_pow, Bool.and_eq_true, Bool.not_eq_true', decide_eq_false_iff_not, decide_eq_true_eq]
    exact ⟨fun q => ⟨q.1, fun e => q.2 e.symm⟩, fun q => ⟨q.1, fun e => q.2 e.symm⟩⟩
  have h0 : CL (Eo (Ms s)) (fun v => v < sG s ∧ v ≠ g ∧ ¬ Eo (Ms s) g v) := CL.sub (V := Bs (nAn (2 ^ sG s - 1) (2 ^ g))) h (fun v hv => (fB v).mpr ⟨hv.1, hv.2.1⟩)
  have h1 : CL (tE (Eo (Ms s)) g 9 (fun _ => 0)) (fun v => v < sG s ∧ v ≠ g ∧ ¬ Eo (Ms s) g v) := h0.cong (fun a b ha hb => by
    have a9 : a ≠ 9 := by omega
    have b9 : b ≠ 9 := by omega
    unfold tE
    have := ha.2.1
    have := hb.2.1
    simp_all)
  have h2 := h1.iso (w := g) (fun e => by unfold tE at e; omega) (fun v hv => by
    have v9 : v ≠ 9 := by omega
    have := hv.2.1
    have := hv.2.2
    have g9 : g ≠ 9 := by omega
    unfold tE
    simp_all)
  have h3 := h2.iso (w := 9) (fun e => by unfold tE at e; omega) (fun v hv => by
    have v9 : v ≠ 9 := by rcases hv with q | q <;> omega
    have g9 : g ≠ 9 := by omega
    have g9' : ¬ 9 = g := by omega
    unfold tE
    simp_all)
  refine h3.sub (fun v hv => ?_)
  rcases hA v hv with q | ⟨q1, q2⟩
  · exact Or.inr q
  · by_cases e : v = g
    · exact Or.inl (Or.inr e)
    · exact Or.inl (Or.inl ⟨q1, e, q2⟩)
theorem tw_laid (si : SI s) (hg : g < sG s) (h : layQ s) : twP s g := by
  have g9 := si.1
  have h0 : CL (Eo (Ms s)) (fun v => v < sG s) := CL.ext (V := Bs (2 ^ sG s - 1)) h (fun v => bs_full)
  have h1 : CL (tE (Eo (Ms s)) g 9 (fun _ => 0)) (fun v => v < sG s) := h0.cong (fun a b ha hb => by
    have a9 : a ≠ 9 := by omega
    have b9 : b ≠ 9 := by omega
    have g9 : g ≠ 9 := by omega
    have ir := Ms_irr si
    have sy := Ms_sym si
    unfold tE
    by_cases a1 : a = g
    · subst a1
      by_cases b1 : b = a
      · subst b1; have := ir b; simp_all
      · simp_all
    · by_cases b1 : b = g
      · subst b1
        have e : Eo (Ms s) a b ↔ Eo (Ms s) b a := ⟨sy _ _, sy _ _⟩
        simp_all
      · simp_all)
  have h3 := h1.iso (w := 9) (fun e => by unfold tE at e; omega) (fun v hv => by
    have v9 : v ≠ 9 := by omega
    have g9 : g ≠ 9 := by omega
    have g9' : ¬ 9 = g := by omega
    unfold tE
    simp_all)
  exact ⟨fun _ => 0, fun _ => Nat.zero_le _, h3⟩
theorem tw_others (si : SI s) (hg : g < sG s) (h : twP s g) : cnB (Ms s) (nAn (2 ^ sG s - 1) (2 ^ g)) := by
  have g9 := si.1
  have fB : ∀ v, Bs (nAn (2 ^ sG s - 1) (2 ^ g)) v ↔ v < sG s ∧ v ≠ g := fun v => by
    show (nAn (2 ^ sG s - 1) (2 ^ g)).testBit v = true ↔ _
    rw [nAn_bit, Nat.testBit_two_pow_sub_one, Nat.testBit_two_pow, Bool.and_eq_true, Bool.not_eq_true', decide_eq_false_iff_not, decide_eq_true_eq]
    exact ⟨fun q => ⟨q.1, fun e => q.2 e.symm⟩, fun q => ⟨q.1, fun e => q.2 e.symm⟩⟩
  obtain ⟨D, h1, h2⟩ := h
  have h3 : CL (tE (Eo (Ms s)) g 9 D) (Bs (nAn (2 ^ sG s - 1) (2 ^ g))) := h2.sub (fun v hv => Or.inl ((fB v).mp hv).1)
  exact h3.cong (fun a b ha hb => by
    have ha := (fB a).mp ha
    have hb := (fB b).mp hb
    have a9 : a ≠ 9 := by omega
    have b9 : b ≠ 9 := by omega
    unfold tE
    simp_all)
end TwM
section Twc8
variable {CK S1 S2 : HX → St → Prop} {X X' : HX} {Y Y' : HY} {s : St} {b : Bool} {Q : Qt}
theorem Q8_twice {g : Nat} (h : Qw CK S1 S2 X Y s) (pk : PKo X Y s) (lk : LKo X s) (hg : g < sG s) (k : ∀ (z : Bool) X' Y', Scr b X X' Y Y' → Qw CK S1 S2 X' Y' s → (z = true ↔ twP s g) → Q (rI (nI z.toNat)) (LX8 b) X' Y') : tX8_canComeTwice b [.ref 0, .int (nI g)] (LX8 b) X Y Q := by
  have g9 := h.si.1
  have n79 := nC8_79 b
  have T0 := Nat.two_pow_pos (sG s)
  have T9 := pw9 g9
  have gL := Ms_lt h.si g
  apply tX8_canComeTwice_i
  refine Q8_laid h lk (fun z hz => cS1_mk ⟨fun q => ?_, fun q => ⟨(by first | exact Or.inl rfl | exact Or.inr rfl | exact Or.inl trivial | exact Or.inr trivial), ?_⟩⟩)
  · have e1 := Eq8.mg (b := b) (X := X) (Y := Y) S41
    revert e1
    generalize mg S41 (LX8 b).length X (sb S41 X) = X1
    generalize mg S41 (LX8 b).length Y (sb S41 Y) = Y1
    intro e1
    have h1 := h.scr e1.scr
    refine Q8_all h1 (cK2_mk ?_)
    rw [show lN (2 ^ sG s - 1) &&& (((lN 1) <<< ((nI g).toInt64 &&& 63)) ^^^ (-1 : Int64)) = lN (nAn (2 ^ sG s - 1) (2 ^ g)) by simp (disch := omega) only [m_0, m_L0, m_lt, m_le, m_eq, m_neg, m_in, m_clamp, m_add, m_sub, m_pred, m_mul, m_l, m_i, m_Land, m_Lor, m_and, m_or, m_xor, m_Landn, m_andn, m_LshlP, m_shl, m_LbitP, m_bit, m_cmp0P, m_Lb0, m_Lb1, m_b0, m_b1, Nat.one_mul]]
    refine Q8_layable h1 (e1.scr.pk pk) (Nat.lt_of_le_of_lt (nAn_le _ _) (by omega)) (fun z2 X2 Y2 sc2 h2 p2 hz2 => ⟨fun q2 => ⟨(m_in (by omega)).mpr (by omega), ?_⟩, fun q2 => ⟨(by first | exact Or.inl rfl | exact Or.inr rfl | exact Or.inl trivial | exact Or.inr trivial), ?_⟩⟩)
    · have hc := hz2.mp (z11 q2)
      have eM : Y2 34 (nI g).toNatClampNeg = lN (Ms s g) := by rw [m_clamp (by omega)]; exact p2.2.1 g (by omega)
      rw [eM]
      refine Q8_copy h2 p2 (fun X3 Y3 sc3 h3 p3 m3 => Q8_all h3 (cK2_mk ?_))
      have eA : (lN (2 ^ sG s - 1) &&& (lN (Ms s g) ^^^ (-1 : Int64))) ||| 512 = lN (nAn (2 ^ sG s - 1) (Ms s g) ||| 512) := by
        rw [m_Landn, show (512 : Int64) = lN 512 from rfl, m_Lor]
      rw [eA]
      have bA : ∀ v, Bs (nAn (2 ^ sG s - 1) (Ms s g) ||| 512) v ↔ v = 9 ∨ (v < sG s ∧ ¬ Eo (Ms s) g v) := fun v => by
        show (nAn (2 ^ sG s - 1) (Ms s g) ||| 2 ^ 9).testBit v = true ↔ _ ∨ (_ ∧ ¬ (Ms s g).testBit v = true)
        rw [Nat.testBit_or, nAn_bit, Nat.testBit_two_pow_sub_one, Nat.testBit_two_pow, Bool.or_eq_true, Bool.and_eq_true, Bool.not_eq_true', decide_eq_true_eq, decide_eq_true_eq, Bool.not_eq_true]
        exact ⟨fun q => q.elim Or.inr (fun e => Or.inl e.symm), fun q => q.elim (fun e => Or.inr e.symm) Or.inl⟩
      have bL : ∀ v, Bs (Ms s g) v ↔ Eo (Ms s) g v := fun v => Iff.rfl
      have n9 : ¬ Eo (Ms s) g 9 := fun e => by have := (Ms_bd g 9 e).2; omega
      have m9 : ∀ y, ¬ Eo (Ms s) 9 y := fun y e => by have := (Ms_bd 9 y e).1; omega
      have sc := (e1.scr.trans sc2).trans sc3
      refine X8_canShare_s hg h.si 12 (Ms s g) (nAn (2 ^ sG s - 1) (Ms s g) ||| 512) 0 (fun _ => 0) (Ms s) (sb [37, 38, 39, 40] X3) (sb [37, 38, 39, 40] Y3) _ ?_ ?_ (by omega) ?_ h3.2.2.2.2.1.2 (fun i hi => m3 i hi) ⟨Ms_gm h.si, fun i => by have := Ms_lt h.si i; omega, fun a b _ _ _ _ => Iff.rfl, n9, fun a ha q1 q2 => ⟨⟨fun e => ⟨e, fun z => absurd (show (0 : Nat) = 1 from z) (by decide)⟩, fun e => e.1⟩, ⟨fun e => absurd e (m9 a), fun e => absurd rfl e.2⟩⟩, fun y _ => m9 y⟩ (fun _ => Nat.zero_le _) (fun v hv => ⟨fun y => ?_, hv⟩) (fun v => ?_) (tw_base h.si hg (fun v hv => (bA v).mp hv) hc) (fun _ a ha e => ?_) (fun z3 X4 Y4 s4 _ hz3 _ => cS1_mk ⟨b01 z3, ?_⟩)
      · have := cnt_n (n := 9) (S := Ms s g) (by omega) (by omega); omega
      · have := cnt_n (n := 9) (S := Ms s g) (by omega) (by omega); omega
      · exact Nat.or_lt_two_pow (n := 10) (Nat.lt_of_le_of_lt (nAn_le _ _) (by omega)) (by omega)
      · rcases (bA v).mp y with rfl | ⟨-, y⟩
        · exact n9 hv
        · exact y hv
      · rw [bA, bL]
        show (v < sG s ∨ v = 9) ↔ _
        by_cases e : Eo (Ms s) g v
        · have := (Ms_bd g v e).2
          exact ⟨fun _ => Or.inr e, fun _ => Or.inl this⟩
        · exact ⟨fun q => q.elim (fun q => Or.inl (Or.inr ⟨q, e⟩)) (fun q => Or.inl (Or.inl q)), fun q => q.elim (fun q => q.elim Or.inr (fun q => Or.inl q.1)) (fun q => absurd q e)⟩
      · rcases (bA a).mp ha with rfl | ⟨-, y⟩
        · exact n9 e
        · exact y e
      · have sc4 := scr37 (b := b) (X := X3) (Y := Y3) s4.1 s4.2.1 s4.2.2
        refine k z3 _ _ (sc.trans sc4) (h3.scr sc4) (hz3.trans ?_)
        exact twR_free (fun a ha e => by
          rcases (bA a).mp ha with rfl | ⟨-, y⟩
          · exact n9 e
          · exact y e) (fun _ => Nat.zero_le _)
    · exact k false X2 Y2 (e1.scr.trans sc2) h2 ⟨fun e => (by cases e), fun y => by rw [hz2.mpr (tw_others h.si hg y)] at q2; exact absurd q2 (by decide)⟩
  · have e1 := Eq8.mg (b := b) (X := X) (Y := Y) S41
    exact k true _ _ e1.scr (h.scr e1.scr) ⟨fun _ => tw_laid h.si hg (hz.mp (z11 q)), fun _ => rfl⟩
theorem X8_twice_s {p : Int32} (h : Qw CK S1 S2 X Y s) (k : ∀ X' Y', Kp b X X' Y Y' → Qw CK S1 S2 X' Y' s → Q (aTwice s p) (LX8 b) X' Y') : tX8_twice b [.ref 0, .int p] (LX8 b) X Y Q := by
  apply tX8_twice_i
  refine Q8_guest h (fun hp => cK0_mk ?_) (fun hp => cK0_ex ?_)
  · obtain ⟨g, hg, rfl⟩ := isG_c hp
    have g9 := h.si.1
    refine Q8_lays h (fun X1 Y1 kp h1 _ p1 l1 => cK0_mk (Q8_twice h1 p1 l1 hg (fun z X2 Y2 sc h2 hz => cK1_mk ⟨b01 z, ?_⟩)))
    have k' := k X2 Y2 (kp.trans sc.kp) h2
    unfold aTwice at k'
    rw [cif_y hp, m_clamp (by omega), ← iB_of hz] at k'
    exact k'
  · have k' := k X Y Kp.rfl h
    unfold aTwice at k'
    rw [cif_n hp] at k'; exact k'
theorem X8_kind_s (h : Qw CK S1 S2 X Y s) (k : ∀ X' Y', KpR b X X' Y Y' → Qw CK S1 S2 X' Y' s → Q (aKind s) (LX8 b) X' Y') : tX8_kind b [.ref 0] (LX8 b) X Y Q := by
  have g9 := h.si.1
  apply tX8_kind_i
  refine Q8_lays h (fun X1 Y1 kp h1 _ p1 l1 => cK0_mk (Q8_laid h1 l1 (fun z hz => cS1_mk ?_)))
  have e1 := Eq8.mg (b := b) (X := X1) (Y := Y1) S41
  revert e1
  generalize mg S41 (LX8 b).length X1 (sb S41 X1) = X2
  generalize mg S41 (LX8 b).length Y1 (sb S41 Y1) = Y2
  intro e1
  have h2 := h1.scr e1.scr
  have kr : KpR b X X2 Y Y2 := (kp.trans e1.kp).r
  refine ⟨fun q => ?_, fun q => ?_⟩
  · have hl : ¬ layQ s := fun y => by rw [hz.mpr y] at q; exact absurd q (by decide)
    refine X8_stands_s h2 (e1.scr.lk l1) (fun X3 Y3 z3 kr3 h3 pl3 l3 hz3 => cK1_mk ⟨fun q3 => ?_, fun q3 => ?_⟩)
    · have hr : ¬ rdP s := fun y => by rw [hz3.mpr y] at q3; exact absurd q3 (by decide)
      have p3 := pl3 (e1.scr.pk p1)
      have H : ∀ n j X4 Y4, j + n = sG s → Scr b X3 X4 Y3 Y4 → Qw CK S1 S2 X4 Y4 s → (∀ g, g < j → ¬ twP s g) → hX8_kind_40 Q b (nI j) X4 Y4 := by
        intro n
        induction n with
        | zero =>
          intro j X4 Y4 hj sc4 h4 no
          have ej : j = sG s := by omega
          subst ej
          apply hX8_kind_40_i
          rw [h4.bv.1, m_le (by omega) (by omega)]
          refine ⟨fun _ => ?_, fun q => absurd (Nat.le_refl _) q⟩
          have k' := k X4 Y4 ((kr.trans kr3).trans sc4.kp.r) h4
          unfold aKind at k'
          rw [cif_n hl, cif_n hr, cif_n (fun ⟨g, q1, q2⟩ => no g q1 q2)] at k'
          exact k'
        | succ n ih =>
          intro j X4 Y4 hj sc4 h4 no
          apply hX8_kind_40_i
          rw [h4.bv.1, m_le (by omega) (by omega)]
          refine ⟨fun q => absurd q (by omega), fun _ => Q8_twice h4 (sc4.pk p3) (sc4.lk l3) (g := j) (by omega) (fun z5 X5 Y5 sc5 h5 hz5 => cK1_mk ⟨fun q5 => ?_, fun q5 => ?_⟩)⟩
          · rw [m_add]
            exact ih (j + 1) X5 Y5 (by omega) (sc4.trans sc5) h5 (fun g hg y => by
              by_cases e : g = j
              · subst e; rw [hz5.mpr y] at q5; exact absurd q5 (by decide)
              · exact no g (by omega) y)
          · have k' := k X5 Y5 ((kr.trans kr3).trans (sc4.trans sc5).kp.r) h5
            unfold aKind at k'
            rw [cif_n hl, cif_n hr, cif_y ⟨j, by omega, hz5.mp (z11 q5)⟩] at k'
            exact k'
      exact H _ 0 X3 Y3 (Nat.zero_add _) ⟨fun _ _ _ => rfl, rfl, rfl, fun _ _ _ => rfl⟩ h3 (fun g hg => by omega)
    · have k' := k X3 Y3 (kr.trans kr3) h3
      unfold aKind at k'
      rw [cif_n hl, cif_y (hz3.mp (z11 q3))] at k'
      exact k'
  · have hl := hz.mp (z11 q)
    refine X8_claw_s h2 (fun X3 Y3 kp3 h3 => ?_)
    have ec : aClaw s (nI 0) = rI (clA (clQ s) (nI 0)) := by
      unfold aClaw
      rw [cif_n (fun z => z.elim (fun y => absurd y (by decide)) (fun y => y (by decide)))]
    rw [ec]
    have k' := k X3 Y3 (kr.trans kp3.r) h3
    unfold aKind at k'
    rw [cif_y hl] at k'
    refine cK1_mk ⟨fun q4 => ?_, fun q4 => ?_⟩
    · rw [cif_n q4] at k'; exact k'
    · rw [cif_y (Classical.not_not.mp q4)] at k'; exact k'
end Twc8
