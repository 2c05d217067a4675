/-! ROUND, by the class and by the reference -/
noncomputable def moR (s : St) (k : Nat) : Nat := so s k ^^^ so s 0
/-- they can stand in a ring -/
def rdP (s : St) : Prop := ldP (sm s) (moR s) P0
noncomputable def aRound (s : St) : Rs := rI (iB (rdP s))
/-- what is told, and the list, stay; what the tried ones forbid, stays none -/
def KpR (b : Bool) (X X' : HX) (Y Y' : HY) : Prop := (∀ c, c < nC8 b → (c < 25 ∨ 79 ≤ c) → X' c = X c ∧ Y' c = Y c) ∧ (PV (sb S57 X) P0 → PV (sb S57 X') P0)
theorem KpR.trans {b : Bool} {X X1 X2 : HX} {Y Y1 Y2 : HY} (h : KpR b X X1 Y Y1) (k : KpR b X1 X2 Y1 Y2) : KpR b X X2 Y Y2 := ⟨fun c hc hd => ⟨(k.1 c hc hd).1.trans (h.1 c hc hd).1, (k.1 c hc hd).2.trans (h.1 c hc hd).2⟩, fun p => k.2 (h.2 p)⟩
theorem Kp.r {b : Bool} {X X' : HX} {Y Y' : HY} (h : Kp b X X' Y Y') : KpR b X X' Y Y' := ⟨fun c hc hd => h c hc (by omega), fun p => PV57 p (h 61 (by have := nC8_79 b; omega) (by omega)).1⟩
theorem rd_rows {s : St} {v k : Nat} : Bs (rwG (moR s) (sm s) v) k ↔ k < sm s ∧ (Bs (so s k) v ↔ ¬ Bs (so s 0) v) := by
  rw [rwG_bit]
  show _ ∧ (so s k ^^^ so s 0).testBit v = true ↔ _ ∧ ((so s k).testBit v = true ↔ ¬ (so s 0).testBit v = true)
  rw [Nat.testBit_xor]
  cases (so s k).testBit v <;> cases (so s 0).testBit v <;> simp
theorem rd_may {s : St} : mayG (moR s) (sm s) P0 = mayS (rwG (moR s) (sm s)) (sG s) ∨ 9 < sG s := by
  by_cases g9 : 9 < sG s
  · exact Or.inr g9
  left
  funext c k
  apply propext
  constructor
  · rintro ⟨h, -⟩ v hv
    exact h v (by omega)
  · intro h
    refine ⟨fun v hv h1 h2 => ?_, fun j hj => by simp [P0, Bs] at hj⟩
    by_cases q : v < sG s
    · exact h v q h1 h2
    · obtain ⟨j, hj, -⟩ := h1
      obtain ⟨q1, q2⟩ := rd_rows.mp hj
      have n1 : ¬ Bs (so s j) v := fun y => q (mo_bit q1 y)
      have n0 : ¬ Bs (so s 0) v := fun y => q (mo_bit (by show 0 < sm s; omega) y)
      exact absurd (q2.mpr n0) n1
theorem rd_iff {s : St} (g9 : sG s ≤ 9) : rdP s ↔ sm s ≤ 9 ∧ 0 < wy (sm s) (mayS (rwG (moR s) (sm s)) (sG s)) 0 := by
  unfold rdP ldP
  rcases rd_may (s := s) with e | e
  · rw [e]
  · omega
theorem moR_lt {s : St} (h : ∀ k, k < sm s → so s k < 512) {k : Nat} (hk : k < sm s) : moR s k < 512 := Nat.xor_lt_two_pow (n := 9) (h k hk) (h 0 (by omega))
section Rnd8
variable {CK S1 S2 : HX → St → Prop} {X X' : HX} {Y Y' : HY} {s : St} {b : Bool} {Q : Qt}
theorem X8_stands_s (h : Qw CK S1 S2 X Y s) (l : LKo X s) (k : ∀ X' Y' (z : Bool), KpR b X X' Y Y' → Qw CK S1 S2 X' Y' s → (PKo X Y s → PKo X' Y' s) → LKo X' s → (z = true ↔ rdP s) → Q (rI (nI z.toNat)) (LX8 b) X' Y') : tX8_standsInRing b [.ref 0] (LX8 b) X Y Q := by
  have n79 := nC8_79 b
  have ln : (LX8 b).length = nC8 b := rfl
  obtain ⟨v27, v3, vm⟩ := l.1.1
  have v3 : X 41 3 = nI (sm s) := v3
  have vm : ∀ k, k < sm s → X 42 k = nI (so s k) ∧ so s k < 512 := vm
  apply tX8_standsInRing_i
  rw [v3, m_le (by omega) (by omega)]
  refine ⟨fun h9 => ?_, fun h9 => ⟨(by first | exact Or.inl rfl | exact Or.inr rfl | exact Or.inl trivial | exact Or.inr trivial), ?_⟩⟩
  · refine X3_take_s (r := []) (m := sm s) (mo := so s) v27 v3 vm (fun X3 f1 f2 lv pv => cS0_mk ?_)
    rw [ln]
    have fa : ∀ c, c < nC8 b → c ∉ [57, 58, 61] → mg [57, 58, 59, 60, 61, 62, 63, 64, 41, 42, 43, 44, 45, 46, 47, 48] (nC8 b) X X3 c = X c := fun c hc hd => mg_fr (ch := [0, 1, 4]) (fun i _ hj => f1 i (fun e => hj (by simp [e])) (fun e => hj (by simp [e])) (fun e => hj (by simp [e]))) hc (by simpa using hd)
    have ya : ∀ c, c < nC8 b → mg [57, 58, 59, 60, 61, 62, 63, 64, 41, 42, 43, 44, 45, 46, 47, 48] (nC8 b) Y (sb [57, 58, 59, 60, 61, 62, 63, 64, 41, 42, 43, 44, 45, 46, 47, 48] Y) c = Y c := fun c hc => mg_sb hc
    have a0 : mg [57, 58, 59, 60, 61, 62, 63, 64, 41, 42, 43, 44, 45, 46, 47, 48] (nC8 b) X X3 57 = X3 0 := mg_in 0 (by omega) rfl rfl
    have a1 : mg [57, 58, 59, 60, 61, 62, 63, 64, 41, 42, 43, 44, 45, 46, 47, 48] (nC8 b) X X3 58 = X3 1 := mg_in 1 (by omega) rfl rfl
    have a4 : mg [57, 58, 59, 60, 61, 62, 63, 64, 41, 42, 43, 44, 45, 46, 47, 48] (nC8 b) X X3 61 = X3 4 := mg_in 4 (by omega) rfl rfl
    revert fa ya a0 a1 a4
    generalize mg [57, 58, 59, 60, 61, 62, 63, 64, 41, 42, 43, 44, 45, 46, 47, 48] (nC8 b) X X3 = Xa
    generalize mg [57, 58, 59, 60, 61, 62, 63, 64, 41, 42, 43, 44, 45, 46, 47, 48] (nC8 b) Y (sb [57, 58, 59, 60, 61, 62, 63, 64, 41, 42, 43, 44, 45, 46, 47, 48] Y) = Ya
    intro fa ya a0 a1 a4
    have pa : PV (sb S57 Xa) P0 := fun t ht => by
      show Xa 61 t = _ ∧ _
      rw [a4]; exact pv t ht
    have t3 : Xa 57 3 = nI (sm s) := by rw [a0]; exact lv.2.1
    have tm : ∀ t, t < sm s → Xa 58 t = nI (so s t) := fun t ht => by rw [a1]; exact (lv.2.2 t ht).1
    have fin : ∀ X2, (∀ c, c ≠ 58 → X2 c = Xa c) → (∀ t, t < sm s → X2 58 t = nI (moR s t)) → tX3_findLayings [.ref 0] (LX3 ++ []) (sb S57 X2) (sb S57 Ya) (cS0 (LX3 ++ []) (LX8 b) S57 (LX8 b).length X2 Ya Q (fun X2 Y2 => tX3_isLaid [.ref 0] (LX3 ++ []) (sb [57, 58, 59, 60, 61, 62, 63, 64] X2) (sb [57, 58, 59, 60, 61, 62, 63, 64] Y2) (cS1 (LX3 ++ []) (LX8 b) [57, 58, 59, 60, 61, 62, 63, 64] (LX8 b).length X2 Y2 Q (fun x3 X3 Y3 => (x3 = 0 ∨ x3 = 1) ∧ Q (.inl (some (.int x3))) (LX8 b) X3 Y3)))) := fun X2 f2 m2 => by
      have x2 : ∀ c, c < nC8 b → (c < 57 ∨ 64 < c) → X2 c = X c := fun c hc hd => by rw [f2 c (by omega), fa c hc (by simp; omega)]
      have h2 : Qw CK S1 S2 X2 Ya s := h.up9 (fun c c1 c2 c3 => ⟨x2 c (by omega) (by omega), ya c (by omega)⟩)
      have p2 : PV (sb S57 X2) P0 := PV57 pa (f2 61 (by omega))
      have l2 : LV (sb S57 X2) (sm s) (moR s) := by
        refine ⟨v27, ?_, fun t ht => ⟨?_, moR_lt (fun k hk => (vm k hk).2) ht⟩⟩
        · show X2 57 3 = _; rw [f2 57 (by omega)]; exact t3
        · exact m2 t ht
      refine Q8_tfind h2 p2 l2 (fun X5 Y5 sc5 h5 c5 => X3_isLaid_s (r := []) c5 (fun z hz => cS1_mk ⟨b01 z, ?_⟩))
      have e := Eq8.mg (b := b) (X := X5) (Y := Y5) S57
      have sc := sc5.trans e.scr
      have pl : PKo X Y s → PKo X2 Ya s := fun p => p.of (by rw [x2 25 (by omega) (by omega)]) (x2 26 (by omega) (by omega)) (x2 27 (by omega) (by omega)) (x2 28 (by omega) (by omega)) (ya 34 (by omega))
      have ll : LKo X2 s := l.of (by rw [x2 41 (by omega) (by omega)]) (fun c c1 c2 => x2 c (by omega) (by omega))
      have kr : KpR b X X2 Y Ya := ⟨fun c hc hd => ⟨x2 c hc (by omega), ya c hc⟩, fun _ => p2⟩
      exact k _ _ z (kr.trans sc.kp.r) (h2.scr sc) (fun p => sc.pk (pl p)) (sc.lk ll) hz
    refine ⟨(m_in (by omega)).mpr (by omega), ?_⟩
    have H : ∀ n j X2, j + n = sm s → (∀ c, c ≠ 58 → X2 c = Xa c) → (∀ t, t < sm s → X2 58 t = nI (if t < j then moR s t else so s t)) → hX8_standsInRing_37 Q b (Xa 58 (nI 0).toNatClampNeg) (nI j) X2 Ya := by
      intro n
      induction n with
      | zero =>
        intro j X2 hj f2 m2
        apply hX8_standsInRing_37_i
        rw [f2 57 (by omega), t3, m_le (by omega) (by omega)]
        exact ⟨fun _ => fin X2 f2 (fun t ht => by rw [m2 t ht, if_pos (by omega)]), fun q => absurd (by omega) q⟩
      | succ n ih =>
        intro j X2 hj f2 m2
        apply hX8_standsInRing_37_i
        rw [f2 57 (by omega), t3, m_clamp (show 0 < 2147483648 by omega), tm 0 (by omega), m_clamp (show j < 2147483648 by omega), m2 j (by omega), if_neg (by omega)]
        have i1 := ih (j + 1) (up2 X2 58 j (nI (moR s j))) (by omega) (fun c hc => by rw [up2_row hc]; exact f2 c hc) (fun t ht => by
          rw [up2_at]
          by_cases e : t = j
          · rw [if_pos e, if_pos (by omega), e]
          · rw [if_neg e, m2 t ht]
            by_cases q : t < j
            · rw [if_pos q, if_pos (by omega)]
            · rw [if_neg q, if_neg (by omega)])
        rw [m_clamp (show 0 < 2147483648 by omega), tm 0 (by omega)] at i1
        simp (disch := omega) only [m_0, m_L0, m_lt, m_le, m_eq, m_neg, m_in, m_clamp, m_add, m_sub, m_pred, m_mul, m_l, m_i, m_Land, m_Lor, m_and, m_or, m_xor, m_Landn, m_andn, m_LshlP, m_shl, m_LbitP, m_bit, m_cmp0P, m_Lb0, m_Lb1, m_b0, m_b1, Nat.one_mul]
        exact ⟨fun q => by omega, fun _ => ⟨fun q => by omega, fun _ => ⟨by omega, by omega, i1⟩⟩⟩
    exact H _ 0 Xa (Nat.zero_add _) (fun _ _ => rfl) (fun t ht => by rw [if_neg (by omega)]; exact tm t ht)
  · exact k X Y false ⟨fun _ _ _ => ⟨rfl, rfl⟩, id⟩ h id l ⟨fun z => (by cases z), fun z => absurd z.1 h9⟩
theorem X8_round_s (h : Qw CK S1 S2 X Y s) (k : ∀ X' Y', KpR b X X' Y Y' → Qw CK S1 S2 X' Y' s → Q (aRound s) (LX8 b) X' Y') : tX8_round b [.ref 0] (LX8 b) X Y Q := by
  have n79 := nC8_79 b
  apply tX8_round_i
  refine Q8_lays h (fun X1 Y1 kp1 h1 e4 p1 l1 => cK0_mk (X8_stands_s h1 l1 (fun X2 Y2 z kk h2 _ _ hz => cK1_mk ⟨b01 z, ?_⟩)))
  rw [iB_of hz]
  exact k X2 Y2 (kp1.r.trans kk) h2
end Rnd8
section Rnd9
variable {CM : HX → St → Prop} {X X' : HX} {Y Y' : HY} {s : St} {r : Ly} {Q : Qt}
theorem Q9_isRound (h : Mw CM X Y s) (hN : NV X (Ms s)) (k : ∀ X' Y' (z : Bool), ScM X X' Y Y' → X' 0 0 = X 0 0 → Mw CM X' Y' s → (z = true ↔ rdP s) → Q (rI (nI z.toNat)) (LX9 ++ r) X' Y') : tX9_isRound [.ref 0] (LX9 ++ r) X Y Q := by
  have g9 := h.si.1
  apply tX9_isRound_i
  refine Q9_moms h hN (fun X1 sc1 e1 _ h1 m1 => cK0_mk ?_)
  obtain ⟨⟨m27, m16, mm⟩, ⟨n10, n18, nr⟩, pr, tr⟩ := m1
  rw [m16, m_le (by omega) (by omega)]
  refine ⟨fun h9 => ?_, fun h9 => ⟨(by first | exact Or.inl rfl | exact Or.inr rfl | exact Or.inl trivial | exact Or.inr trivial), k X1 Y false sc1 e1 h1 ⟨fun z => (by cases z), fun z => absurd z.1 h9⟩⟩⟩
  have T0 := Nat.two_pow_pos (sm s)
  have T9 := pw9 h9
  have ef : rwF (Ms s) (sG s) = rwM (Ms s) (sG s) := by
    funext v; unfold rwF; rw [if_pos (by show sm s < 10; omega)]
  rw [ef] at nr
  have em : ((nI 1) <<< ((nI (sm s)) &&& 31)) - (nI 1) = nI (2 ^ sm s - 1) := by simp (disch := omega) only [m_0, m_L0, m_lt, m_le, m_eq, m_neg, m_in, m_clamp, m_add, m_sub, m_pred, m_mul, m_l, m_i, m_Land, m_Lor, m_and, m_or, m_xor, m_Landn, m_andn, m_LshlP, m_shl, m_LbitP, m_bit, m_cmp0P, m_Lb0, m_Lb1, m_b0, m_b1, Nat.one_mul]
  rw [em]
  have RL : ∀ v, rwG (moR s) (sm s) v < 512 := fun v => by
    have := bmk_lt (fun k => (moR s k).testBit v) (sm s)
    show bmk _ _ < 512
    omega
  have H : ∀ n j X2, j + n = sG s → (∀ c, c ≠ 10 → X2 c = X1 c) → (∀ v, v < sG s → X2 10 v = nI (if v < j then rwG (moR s) (sm s) v else rwM (Ms s) (sG s) v)) → hX9_isRound_26 Q r (nI (2 ^ sm s - 1)) (nI j) X2 Y := by
    intro n
    induction n with
    | zero =>
      intro j X2 hj f2 r2
      have e0 : X2 0 = X1 0 := f2 0 (by omega)
      have sc2 : ScM X1 X2 Y Y := .cell (by decide) f2
      apply hX9_isRound_26_i
      rw [e0, n18, m_le (by omega) (by omega)]
      refine ⟨fun _ => ?_, fun q => absurd (by omega) q⟩
      have hR : RwV X2 (sG s) (rwG (moR s) (sm s)) := ⟨n10, by rw [e0]; exact n18, fun v hv => ⟨by rw [r2 v hv, if_pos (by omega)], RL v⟩⟩
      refine X9_count_s (m := sm s) (n := sG s) (L := []) (t := none) (by rw [e0]; exact m16) h9 hR ?_ ?_ (fun Y3 g3 w3 => cK2_mk ?_)
      · unfold PrV at pr ⊢; rw [e0, f2 14 (by omega), f2 15 (by omega)]; exact pr
      · show X2 0 25 = -1; rw [e0]; exact tr
      have sc3 : ScM X2 X2 Y Y3 := .cellY (by decide) g3
      have en : mayN (rwG (moR s) (sm s)) (sG s) [] none = mayS (rwG (moR s) (sm s)) (sG s) := by
        funext c t
        exact propext ⟨fun q => q.1, fun q => ⟨q, fun p hp => by simp at hp, trivial⟩⟩
      have bw : wy (sm s) (mayS (rwG (moR s) (sm s)) (sG s)) 0 ≤ 387420489 := wy_bd9 h9 T0
      rw [en, kc_le, pk_lLE (by omega) (by omega)]
      have st := (sc1.trans sc2).trans sc3
      have hx := (h1.sc sc2).sc sc3
      refine ⟨fun q => ⟨(by first | exact Or.inl rfl | exact Or.inr rfl | exact Or.inl trivial | exact Or.inr trivial), k X2 Y3 false st (by rw [e0]; exact e1) hx ⟨fun z => (by cases z), fun z => ?_⟩⟩, fun q => ⟨(by first | exact Or.inl rfl | exact Or.inr rfl | exact Or.inl trivial | exact Or.inr trivial), k X2 Y3 true st (by rw [e0]; exact e1) hx ⟨fun _ => (rd_iff g9).mpr ⟨h9, by omega⟩, fun _ => rfl⟩⟩⟩
      have := ((rd_iff g9).mp z).2
      omega
    | succ n ih =>
      intro j X2 hj f2 r2
      have hjG : j < sG s := by omega
      have e0 : X2 0 = X1 0 := f2 0 (by omega)
      have rj : X2 10 j = nI (rwM (Ms s) (sG s) j) := by rw [r2 j hjG, if_neg (by omega)]
      have v20 : vp_in (nI j) 20 := (m_in (by omega)).mpr (by omega)
      have hb : nI (rwM (Ms s) (sG s) j &&& 1) = nI 1 ↔ Bs (rwM (Ms s) (sG s) j) 0 := by
        have h1 : rwM (Ms s) (sG s) j &&& 1 ≤ 1 := Nat.and_le_right
        show _ ↔ (rwM (Ms s) (sG s) j).testBit 0 = true
        rw [m_eq (by omega) (by omega), Nat.testBit_zero, Nat.and_one_is_mod, decide_eq_true_eq]
      apply hX9_isRound_26_i
      rw [e0, n18, m_le (by omega) (by omega), m_clamp (show j < 2147483648 by omega), rj, m_andn]
      simp (disch := omega) only [m_0, m_L0, m_lt, m_le, m_eq, m_neg, m_in, m_clamp, m_add, m_sub, m_pred, m_mul, m_l, m_i, m_Land, m_Lor, m_and, m_or, m_xor, m_Landn, m_andn, m_LshlP, m_shl, m_LbitP, m_bit, m_cmp0P, m_Lb0, m_Lb1, m_b0, m_b1, Nat.one_mul]
      have same : ¬ Bs (rwM (Ms s) (sG s) j) 0 → rwG (moR s) (sm s) j = rwM (Ms s) (sG s) j := fun q => Nat.eq_of_testBit_eq fun i => by
        have h1 := rd_rows (s := s) (v := j) (k := i)
        have h2 := rwM_bit (M := Ms s) (G := sG s) (v := j) (k := i)
        have h3 := rwM_bit (M := Ms s) (G := sG s) (v := j) (k := 0)
        have hh : Bs (rwG (moR s) (sm s) j) i ↔ Bs (rwM (Ms s) (sG s) j) i := by
          rw [h1, h2]
          refine and_congr_right fun hi => ?_
          have n0 : ¬ Bs (so s 0) j := fun y => q (h3.mpr ⟨by show 0 < sm s; omega, y⟩)
          exact ⟨fun z => z.mpr n0, fun z => ⟨fun _ => n0, fun _ => z⟩⟩
        exact Bool.eq_iff_iff.mpr hh
      have turn : Bs (rwM (Ms s) (sG s) j) 0 → nAn (2 ^ sm s - 1) (rwM (Ms s) (sG s) j) = rwG (moR s) (sm s) j := fun q => Nat.eq_of_testBit_eq fun i => by
        have h1 := rd_rows (s := s) (v := j) (k := i)
        have h2 := rwM_bit (M := Ms s) (G := sG s) (v := j) (k := i)
        have h3 := (rwM_bit (M := Ms s) (G := sG s) (v := j) (k := 0)).mp q
        have hh : Bs (nAn (2 ^ sm s - 1) (rwM (Ms s) (sG s) j)) i ↔ Bs (rwG (moR s) (sm s) j) i := by
          rw [h1]
          show (nAn _ _).testBit i = true ↔ _
          rw [nAn_bit, Nat.testBit_two_pow_sub_one, Bool.and_eq_true, decide_eq_true_eq, Bool.not_eq_true', ← Bool.not_eq_true]
          refine and_congr_right fun hi => ?_
          refine Iff.trans (not_congr h2) ⟨fun z => ⟨fun y => absurd ⟨hi, y⟩ z, fun y => absurd h3.2 y⟩, fun z y => z.mp y.2 h3.2⟩
        exact Bool.eq_iff_iff.mpr hh
      refine ⟨fun q => by omega, fun _ => ⟨by omega, fun q => ?_, fun q => ⟨by omega, by omega, ?_⟩⟩⟩
      · have i1 := ih (j + 1) X2 (by omega) f2 (fun v hv => by
          rw [r2 v hv]
          by_cases e : v = j
          · subst e
            rw [if_neg (by omega), if_pos (by omega), same (fun y => q (hb.mpr y))]
          · by_cases z : v < j
            · rw [if_pos z, if_pos (by omega)]
            · rw [if_neg z, if_neg (by omega)])
        exact i1
      · have q1 := hb.mp (Classical.not_not.mp q)
        exact ih (j + 1) _ (by omega) (fun c hc => by rw [up2_row hc]; exact f2 c hc) (fun v hv => by
          rw [up2_at]
          by_cases e : v = j
          · rw [if_pos e, if_pos (by omega), turn q1, e]
          · rw [if_neg e, r2 v hv]
            by_cases z : v < j
            · rw [if_pos z, if_pos (by omega)]
            · rw [if_neg z, if_neg (by omega)])
  exact H _ 0 X1 (Nat.zero_add _) (fun _ _ => rfl) (fun v hv => by rw [if_neg (by omega)]; exact (nr v hv).1)
theorem X9_round_s (h : Mw CM X Y s) (k : ∀ X' Y' res, ScM X X' Y Y' → Mw CM X' Y' s → ansM cd1 (aRound s) (X' 0 0) res → Q res (LX9 ++ r) X' Y') : tX9_round [.ref 0] (LX9 ++ r) X Y Q := by
  have s0 : ScM X (up2 X 0 0 (nI 0)) Y Y := .up (by decide)
  apply tX9_round_i
  refine Q9_plain (h.sc s0) (fun X1 sc1 e1 h1 n1 _ _ => cK0_mk (Q9_isRound h1 n1 (fun X2 Y2 z sc2 e2 h2 hz => cK1_mk ⟨b01 z, k X2 Y2 _ ((s0.trans sc1).trans sc2) h2 ⟨?_, ?_⟩⟩)))
  · rw [e2, e1, up2_same]
  · rw [iB_of hz]
end Rnd9
