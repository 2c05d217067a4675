/-! open pairs chosen -/
def jnT (M : Nat → Nat) (L : List (Nat × Nat)) (T : Nat) : Nat → Nat → Nat
  | 0 => M
  | n + 1 => if T.testBit n then jn (jnT M L T n) (L.getD n (0, 0)).1 (L.getD n (0, 0)).2 else jnT M L T n
def nO (s : St) : Nat := min (ops s (sFo s)).length 8
theorem nO8 (s : St) : nO s ≤ 8 := Nat.min_le_right _ _
theorem nO_le (s : St) : nO s ≤ (ops s (sFo s)).length := Nat.min_le_left _ _
def opA (s : St) (k : Nat) : Nat := ((ops s (sFo s)).getD k (0, 0)).1
def opB (s : St) (k : Nat) : Nat := ((ops s (sFo s)).getD k (0, 0)).2
theorem op_at {s : St} {k : Nat} (h : k < nO s) : (ops s (sFo s))[k]? = some (opA s k, opB s k) := by
  have h1 := nO_le s
  unfold opA opB
  rw [List.getD_eq_getElem?_getD, List.getElem?_eq_getElem (by omega)]
  rfl
theorem op_in {s : St} {k : Nat} (h : k < nO s) : opA s k < opB s k ∧ opB s k < sG s := by
  have h1 := List.mem_of_getElem? (op_at h)
  have h2 := (List.mem_filter.mp h1).1
  exact prL_mem.mp h2
/-- who has met whom, with these chosen -/
def chM (s : St) (T : Nat) : Nat → Nat → Nat := jnT (Ms s) (ops s (sFo s)) T
theorem chM_succ {s : St} {T n : Nat} : chM s T (n + 1) = if T.testBit n then jn (chM s T n) (opA s n) (opB s n) else chM s T n := rfl
theorem chM_out {s : St} {T m : Nat} (hT : T < 2 ^ m) : ∀ n, chM s T (m + n) = chM s T m
  | 0 => rfl
  | n + 1 => by
    show chM s T (m + n + 1) = _
    rw [chM_succ, chM_out hT n, if_neg]
    rw [Nat.testBit_lt_two_pow (Nat.lt_of_lt_of_le hT (Nat.pow_le_pow_right (by omega) (by omega)))]
    simp
theorem jn_gm {w a b : Nat} {M : Nat → Nat} (h : GM w M) (ha : a < w) (hb : b < w) (hab : a ≠ b) : GM w (jn M a b) := by
  intro i j e
  rcases (jn_eo hab).mp e with q | ⟨rfl, rfl⟩ | ⟨rfl, rfl⟩
  · obtain ⟨h1, h2, h3, h4⟩ := h i j q
    exact ⟨h1, h2, h3, (jn_eo hab).mpr (Or.inl h4)⟩
  · exact ⟨ha, hb, hab, (jn_eo hab).mpr (Or.inr (Or.inr ⟨rfl, rfl⟩))⟩
  · exact ⟨hb, ha, fun e => hab e.symm, (jn_eo hab).mpr (Or.inr (Or.inl ⟨rfl, rfl⟩))⟩
theorem chM_ok {s : St} {T : Nat} (hI : SI s) : ∀ {n : Nat}, n ≤ nO s → GM 10 (chM s T n) ∧ ∀ i, chM s T n i < 2 ^ 10
  | 0, _ => ⟨Ms_gm hI, fun i => by have h := Ms_lt hI i; show Ms s i < 2 ^ 10; omega⟩
  | n + 1, h => by
    have ih := chM_ok (T := T) hI (n := n) (by omega)
    have h1 := op_in (s := s) (k := n) (by omega)
    have g9 := hI.1
    rw [chM_succ]
    split
    · exact ⟨jn_gm ih.1 (by omega) (by omega) (by omega), jn_lt ih.2 (by omega) (by omega)⟩
    · exact ih
def goodC (s : St) (T : Nat) : Prop := cnB (chM s T (nO s)) (2 ^ sG s - 1)
noncomputable def dC (s : St) (m : Int32) (S : Nat) : Nat := if m = 0 then cnt S else nO s - cnt S
def esP (d : Nat → Nat) (good : Nat → Prop) (N R : Nat) : Prop := R < N ∧ good R ∧ ∀ S, S < N → good S → d R < d S ∨ (d R = d S ∧ R ≤ S)
theorem esP_uq {d : Nat → Nat} {good : Nat → Prop} {N a b : Nat} (ha : esP d good N a) (hb : esP d good N b) : a = b := by
  have h1 := ha.2.2 b hb.1 hb.2.1
  have h2 := hb.2.2 a ha.1 ha.2.1
  omega
noncomputable def aChoose (s : St) (m : Int32) : Rs := rI (cif (∃ R, esP (dC s m) (goodC s) (2 ^ nO s) R) (nI (Classical.epsilon (esP (dC s m) (goodC s) (2 ^ nO s)))) (-1))
theorem aChoose_y {s : St} {m : Int32} {R : Nat} (h : esP (dC s m) (goodC s) (2 ^ nO s) R) : aChoose s m = rI (nI R) := by
  unfold aChoose
  rw [cif_y ⟨R, h⟩, eps_uq h (fun _ hy => esP_uq hy h)]
theorem aChoose_n {s : St} {m : Int32} (h : ∀ S, S < 2 ^ nO s → ¬ goodC s S) : aChoose s m = rI (-1) := by
  unfold aChoose
  rw [cif_n (fun ⟨R, q⟩ => h R q.1 q.2.1)]
theorem X4_copy_s {Q : Qt} {r : Ly} {X : HX} {Y : HY} {M : Nat → Nat} (h1 : X 0 2 = nI 10) (h2 : X 4 2 = nI 10) (hM : ∀ i, i < 10 → Y 5 i = lN (M i)) (k : ∀ Y', (∀ c, c ≠ 1 → Y' c = Y c) → (∀ i, i < 10 → Y' 1 i = lN (M i)) → Q (.inl none) (LX4_4 ++ r) X Y') : tX4_copy [.ref 0, .ref 4] (LX4_4 ++ r) X Y Q := by
  apply tX4_copy_i
  have H : ∀ n j Y', j + n = 10 → (∀ c, c ≠ 1 → Y' c = Y c) → (∀ i, i < j → Y' 1 i = lN (M i)) → hX4_copy_2 Q r (nI j) X Y' := by
    intro n
    induction n with
    | zero =>
      intro j Y' hj f h
      apply hX4_copy_2_i
      simp (disch := omega) only [m_0, m_L0, m_lt, m_le, m_eq, m_neg, m_in, m_clamp, m_add, m_sub, m_pred, m_mul, m_l, m_i, m_Land, m_Lor, m_and, m_or, m_xor, m_Landn, m_andn, m_LshlP, m_shl, m_LbitP, m_bit, m_cmp0P, m_Lb0, m_Lb1, m_b0, m_b1, Nat.one_mul, h1, h2]
      exact ⟨fun _ => k Y' f (fun i hi => h i (by omega)), fun h => by omega⟩
    | succ n ih =>
      intro j Y' hj f h
      apply hX4_copy_2_i
      simp (disch := omega) only [m_0, m_L0, m_lt, m_le, m_eq, m_neg, m_in, m_clamp, m_add, m_sub, m_pred, m_mul, m_l, m_i, m_Land, m_Lor, m_and, m_or, m_xor, m_Landn, m_andn, m_LshlP, m_shl, m_LbitP, m_bit, m_cmp0P, m_Lb0, m_Lb1, m_b0, m_b1, Nat.one_mul, h1, h2, f 5 (by omega), hM j (by omega)]
      refine ⟨fun h => by omega, fun _ => ⟨fun h => by omega, fun _ => ⟨by omega, by omega, ih (j + 1) _ (by omega) (fun c hc => by rw [up2_row hc]; exact f c hc) (fun i hi => ?_)⟩⟩⟩
      by_cases e : i = j
      · subst e; rw [up2_same]
      · rw [up2_idx e]; exact h i (by omega)
  exact H 10 0 Y (by omega) (fun _ _ => rfl) (fun i hi => by omega)
section Choose8
variable {CK S1 S2 : HX → St → Prop} {X X' : HX} {Y Y' : HY} {s : St} {b : Bool} {Q : Qt}
/-- the trial takes what Meetings has -/
theorem Q8_copy (h : Qw CK S1 S2 X Y s) (pk : PKo X Y s) {C : HX → HY → Prop} (k : ∀ X' Y', Scr b X X' Y Y' → Qw CK S1 S2 X' Y' s → PKo X' Y' s → (∀ i, i < 10 → Y' 38 i = lN (Ms s i)) → C X' Y') : tX4_copy [.ref 0, .ref 4] (LX4_4 ++ []) (sb [37, 38, 39, 40, 33, 34, 35, 36] X) (sb [37, 38, 39, 40, 33, 34, 35, 36] Y) (cS0 (LX4_4 ++ []) (LX8 b) [37, 38, 39, 40, 33, 34, 35, 36] (LX8 b).length X Y Q C) := by
  have n79 := nC8_79 b
  have ln : (LX8 b).length = nC8 b := rfl
  refine X4_copy_s (M := Ms s) h.2.2.2.2.1.2 h.2.2.2.2.1.1 (fun i hi => pk.2.1 i hi) (fun Y3 g m => cS0_mk ?_)
  rw [ln]
  have fa : ∀ c, c < nC8 b → mg [37, 38, 39, 40, 33, 34, 35, 36] (nC8 b) X (sb [37, 38, 39, 40, 33, 34, 35, 36] X) c = X c := fun c hc => mg_sb hc
  have ya : ∀ c, c < nC8 b → c ≠ 38 → mg [37, 38, 39, 40, 33, 34, 35, 36] (nC8 b) Y Y3 c = Y c := fun c hc hd => mg_fr (ch := [1]) (fun i _ hi => g i (fun e => hi (by simp [e]))) hc (by simpa using hd)
  have sc : Scr b X (mg [37, 38, 39, 40, 33, 34, 35, 36] (nC8 b) X (sb [37, 38, 39, 40, 33, 34, 35, 36] X)) Y (mg [37, 38, 39, 40, 33, 34, 35, 36] (nC8 b) Y Y3) := ⟨fun c hc _ => fa c hc, by rw [fa 33 (by omega)], by rw [fa 37 (by omega)], fun c hc hd => ya c hc (fun e => hd (by subst e; decide))⟩
  refine k _ _ sc (h.scr sc) (sc.pk pk) (fun i hi => ?_)
  rw [show mg [37, 38, 39, 40, 33, 34, 35, 36] (nC8 b) Y Y3 38 = Y3 1 from mg_in 1 (by omega) rfl rfl]
  exact m i hi
/-- two more have met, in the trial -/
theorem Q8_join {M : Nat → Nat} {x y : Nat} (h : Qw CK S1 S2 X Y s) (hM : ∀ i, i < 10 → Y 38 i = lN (M i)) (hx : x < 10) (hy : y < 10) (hxy : x ≠ y) {C : HX → HY → Prop} (k : ∀ X' Y', Scr b X X' Y Y' → Qw CK S1 S2 X' Y' s → (∀ i, i < 10 → Y' 38 i = lN (jn M x y i)) → C X' Y') : tX4_join [.ref 0, .int (nI x), .int (nI y)] (LX4 10 ++ []) (sb [37, 38, 39, 40] X) (sb [37, 38, 39, 40] Y) (cS0 (LX4 10 ++ []) (LX8 b) [37, 38, 39, 40] (LX8 b).length X Y Q C) := by
  have n79 := nC8_79 b
  refine X4_join_s (M := M) (by omega) h.2.2.2.2.1.2 (fun i hi => hM i hi) hx hy hxy (fun Y3 g m => cS0_mk ?_)
  have sc := scr37 (b := b) (X := X) (Y := Y) (X3 := sb [37, 38, 39, 40] X) (fun _ _ _ => rfl) (fun _ _ => rfl) (fun c h1 _ => g c h1)
  refine k _ _ sc (h.scr sc) (fun i hi => ?_)
  rw [show mg [37, 38, 39, 40] (LX8 b).length Y Y3 38 = Y3 1 from mg_in 1 (by show 38 < nC8 b; omega) rfl rfl]
  exact m i hi
/-- the trial asked about some -/
theorem Q8_trial {M : Nat → Nat} {S : Nat} (h : Qw CK S1 S2 X Y s) (hM : ∀ i, i < 10 → Y 38 i = lN (M i) ∧ M i < 1152921504606846976) (hG : GM 10 M) (hS : S < 1024) {C : Int32 → HX → HY → Prop} (k : ∀ (z : Bool) X' Y', Scr b X X' Y Y' → Qw CK S1 S2 X' Y' s → (Y' 38 = Y 38) → (z = true ↔ cnB M S) → C (nI z.toNat) X' Y') : tX4_isLayable [.ref 0, .long (lN S)] (LX4 10 ++ []) (sb [37, 38, 39, 40] X) (sb [37, 38, 39, 40] Y) (cS1 (LX4 10 ++ []) (LX8 b) [37, 38, 39, 40] (LX8 b).length X Y Q C) := by
  have n79 := nC8_79 b
  refine X4_isLayable_s (M := M) ⟨by omega, h.2.2.2.2.1.2, fun i hi => hM i hi⟩ hG (by omega) (fun v hv => bit_lt (k := 10) hS hv) (fun z X3 Y3 f1 f2 g hz => cS1_mk ?_)
  have sc := scr37 (b := b) (X := X) (Y := Y) f1 f2 (fun c _ h3 => g c h3)
  refine k z _ _ sc (h.scr sc) ?_ hz
  rw [show mg [37, 38, 39, 40] (LX8 b).length Y Y3 38 = Y3 1 from mg_in 1 (by show 38 < nC8 b; omega) rfl rfl, g 1 (by omega)]
  rfl
theorem Q8_with {T : Nat} (h : Qw CK S1 S2 X Y s) (pk : PKo X Y s) (hT : T < 2 ^ nO s) (k : ∀ (z : Bool) X' Y', Scr b X X' Y Y' → Qw CK S1 S2 X' Y' s → PKo X' Y' s → (z = true ↔ goodC s T) → Q (.inl (some (.int (nI z.toNat)))) (LX8 b) X' Y') : tX8_isLayableWith b [.ref 0, .int (nI T)] (LX8 b) X Y Q := by
  have g9 := h.si.1
  have n8 := nO8 s
  have hN : 2 ^ nO s ≤ 512 := pw9 (by omega)
  apply tX8_isLayableWith_i
  refine Q8_copy h pk (fun X1 Y1 sc1 h1 p1 m1 => ?_)
  have H : ∀ t i X2 Y2, i + t = 8 → Scr b X X2 Y Y2 → Qw CK S1 S2 X2 Y2 s → PKo X2 Y2 s → (∀ j, j < 10 → Y2 38 j = lN (chM s T (min i (nO s)) j)) → hX8_isLayableWith_13 Q b (nI T) (nI i) X2 Y2 := by
    intro t
    induction t with
    | zero =>
      intro i X2 Y2 hi sc2 h2 p2 m2
      have ei : min i (nO s) = nO s := by omega
      rw [ei] at m2
      have ok := chM_ok (T := T) h.si (n := nO s) (Nat.le_refl _)
      apply hX8_isLayableWith_13_i
      simp (disch := omega) only [m_0, m_L0, m_lt, m_le, m_eq, m_neg, m_in, m_clamp, m_add, m_sub, m_pred, m_mul, m_l, m_i, m_Land, m_Lor, m_and, m_or, m_xor, m_Landn, m_andn, m_LshlP, m_shl, m_LbitP, m_bit, m_cmp0P, m_Lb0, m_Lb1, m_b0, m_b1, Nat.one_mul]
      refine ⟨fun _ => Q8_all h2 (cK2_mk (Q8_trial h2 (fun i hi => ⟨m2 i hi, by have := ok.2 i; omega⟩) ok.1 (full10 h.si) (fun z X3 Y3 sc3 h3 e3 hz => ⟨b01 z, k z X3 Y3 (sc2.trans sc3) h3 (sc3.pk p2) hz⟩))), fun h => by omega⟩
    | succ t ih =>
      intro i X2 Y2 hi sc2 h2 p2 m2
      apply hX8_isLayableWith_13_i
      simp (disch := omega) only [m_0, m_L0, m_lt, m_le, m_eq, m_neg, m_in, m_clamp, m_add, m_sub, m_pred, m_mul, m_l, m_i, m_Land, m_Lor, m_and, m_or, m_xor, m_Landn, m_andn, m_LshlP, m_shl, m_LbitP, m_bit, m_cmp0P, m_Lb0, m_Lb1, m_b0, m_b1, Nat.one_mul]
      refine ⟨fun h => by omega, fun _ => ⟨fun hb => ih (i + 1) X2 Y2 (by omega) sc2 h2 p2 (fun j hj => ?_), fun hb => ?_⟩⟩
      · rw [m2 j hj]
        by_cases q : i < nO s
        · rw [show min i (nO s) = i by omega, show min (i + 1) (nO s) = i + 1 by omega, chM_succ, if_neg (by rw [hb]; simp)]
        · rw [show min i (nO s) = nO s by omega, show min (i + 1) (nO s) = nO s by omega]
      · have hb1 : T.testBit i = true := nz_nz hb
        have hiO : i < nO s := bit_lt hT hb1
        have ho := op_in hiO
        obtain ⟨o1, o2⟩ := p2.2.2.2 i _ (by omega) (op_at hiO)
        simp (disch := omega) only [m_0, m_L0, m_lt, m_le, m_eq, m_neg, m_in, m_clamp, m_add, m_sub, m_pred, m_mul, m_l, m_i, m_Land, m_Lor, m_and, m_or, m_xor, m_Landn, m_andn, m_LshlP, m_shl, m_LbitP, m_bit, m_cmp0P, m_Lb0, m_Lb1, m_b0, m_b1, Nat.one_mul, o1, o2]
        refine ⟨by omega, by omega, Q8_join h2 m2 (by omega) (by omega) (by omega) (fun X3 Y3 sc3 h3 m3 => ih (i + 1) X3 Y3 (by omega) (sc2.trans sc3) h3 (sc3.pk p2) (fun j hj => ?_))⟩
        rw [m3 j hj, show min i (nO s) = i by omega, show min (i + 1) (nO s) = i + 1 by omega, chM_succ, if_pos hb1]
  exact H 8 0 X1 Y1 (by omega) sc1 h1 p1 (fun j hj => by rw [show min 0 (nO s) = 0 by omega]; exact m1 j hj)
theorem dC_step {m : Int32} {S t : Nat} (hS : S < 2 ^ nO s) (ht : t ≤ nO s) : cnt S = (if m = 0 then t else nO s - t) ↔ dC s m S = t := by
  have := cnt_n (by have := nO8 s; omega) hS
  unfold dC
  split <;> omega
theorem X8_choose_s {m : Int32} (h : Qw CK S1 S2 X Y s) (k : ∀ X' Y', Kp b X X' Y Y' → Qw CK S1 S2 X' Y' s → Q (aChoose s m) (LX8 b) X' Y') : tX8_choose b [.ref 0, .int m] (LX8 b) X Y Q := by
  have n8 := nO8 s
  have hN : 2 ^ nO s ≤ 512 := pw9 (by omega)
  have l36 := ops_len (F := sFo s) h.si
  apply tX8_choose_i
  refine Q8_pairs h (fun X1 Y1 kp h1 p1 => cK0_mk ?_)
  rw [p1.2.2.1]
  refine tMin_i (cK1_mk ?_)
  have em : (if nI 8 < nI (ops s (sFo s)).length then nI 8 else nI (ops s (sFo s)).length) = nI (nO s) := by
    unfold nO
    by_cases q : 8 < (ops s (sFo s)).length
    · rw [if_pos ((m_lt (by omega) (by omega)).mpr q)]; congr 1; omega
    · rw [if_neg (fun z => q ((m_lt (by omega) (by omega)).mp z))]; congr 1; omega
  rw [em]
  have H : ∀ n t X2 Y2, t + n = nO s + 1 → Kp b X X2 Y Y2 → Qw CK S1 S2 X2 Y2 s → PKo X2 Y2 s → (∀ S, S < 2 ^ nO s → goodC s S → t ≤ dC s m S) → hX8_choose_19 Q b m (nI (nO s)) (nI t) X2 Y2 := by
    intro n
    induction n with
    | zero =>
      intro t X2 Y2 ht kp2 h2 p2 hI
      apply hX8_choose_19_i
      simp (disch := omega) only [m_0, m_L0, m_lt, m_le, m_eq, m_neg, m_in, m_clamp, m_add, m_sub, m_pred, m_mul, m_l, m_i, m_Land, m_Lor, m_and, m_or, m_xor, m_Landn, m_andn, m_LshlP, m_shl, m_LbitP, m_bit, m_cmp0P, m_Lb0, m_Lb1, m_b0, m_b1, Nat.one_mul]
      refine ⟨fun _ => ?_, fun h => by omega⟩
      have k' := k _ _ kp2 h2
      rw [aChoose_n (fun S hS hg => by
        have h3 := hI S hS hg
        have := cnt_n (by omega) hS
        unfold dC at h3
        split at h3 <;> omega)] at k'
      exact k'
    | succ n ih =>
      intro t X2 Y2 ht kp2 h2 p2 hI
      have ht' : t ≤ nO s := by omega
      obtain ⟨w, hw⟩ : ∃ w, w = (if m = 0 then t else nO s - t) := ⟨_, rfl⟩
      have tb : w ≤ 8 := by rw [hw]; split <;> omega
      have G : ∀ u j X2 Y2, j + u = 2 ^ nO s → Kp b X X2 Y Y2 → Qw CK S1 S2 X2 Y2 s → PKo X2 Y2 s → (∀ S, S < 2 ^ nO s → goodC s S → t < dC s m S ∨ (dC s m S = t ∧ j ≤ S)) → hX8_choose_40 Q b m (nI (nO s)) (nI t) (nI w) (nI j) X2 Y2 := by
        intro u
        induction u with
        | zero =>
          intro j X2 Y2 hj kp2 h2 p2 hJ
          apply hX8_choose_40_i
          simp (disch := omega) only [m_0, m_L0, m_lt, m_le, m_eq, m_neg, m_in, m_clamp, m_add, m_sub, m_pred, m_mul, m_l, m_i, m_Land, m_Lor, m_and, m_or, m_xor, m_Landn, m_andn, m_LshlP, m_shl, m_LbitP, m_bit, m_cmp0P, m_Lb0, m_Lb1, m_b0, m_b1, Nat.one_mul]
          exact ⟨fun _ => ih (t + 1) X2 Y2 (by omega) kp2 h2 p2 (fun S hS hg => by have := hJ S hS hg; omega), fun h => by omega⟩
        | succ u ihu =>
          intro j X2 Y2 hj kp2 h2 p2 hJ
          have hjT : j < 2 ^ nO s := by omega
          have hcl := cnt_le j
          have key := dC_step (s := s) (m := m) hjT ht'
          rw [← hw] at key
          apply hX8_choose_40_i
          simp (disch := omega) only [m_0, m_L0, m_lt, m_le, m_eq, m_neg, m_in, m_clamp, m_add, m_sub, m_pred, m_mul, m_l, m_i, m_Land, m_Lor, m_and, m_or, m_xor, m_Landn, m_andn, m_LshlP, m_shl, m_LbitP, m_bit, m_cmp0P, m_Lb0, m_Lb1, m_b0, m_b1, Nat.one_mul]
          refine ⟨fun h => by omega, fun _ => bc32 (by omega) (cK1_mk ?_)⟩
          rw [m_eq (by omega) (by omega), key]
          refine ⟨fun hne => ihu (j + 1) X2 Y2 (by omega) kp2 h2 p2 (fun S hS hg => ?_), fun he => ?_⟩
          · rcases hJ S hS hg with z | ⟨z1, z2⟩
            · exact Or.inl z
            · exact Or.inr ⟨z1, by
                by_cases e : j = S
                · subst e; exact absurd z1 hne
                · omega⟩
          · have he := Classical.not_not.mp he
            refine Q8_with h2 p2 hjT (fun z X3 Y3 sc3 h3 p3 hz => cK1_mk ⟨fun q => ihu (j + 1) X3 Y3 (by omega) (kp2.trans sc3.kp) h3 p3 (fun S hS hg => ?_), fun q => ?_⟩)
            · rcases hJ S hS hg with z' | ⟨z1, z2⟩
              · exact Or.inl z'
              · exact Or.inr ⟨z1, by
                  by_cases e : j = S
                  · subst e; rw [hz.mpr hg] at q; exact absurd q (by decide)
                  · omega⟩
            · have k' := k _ _ (kp2.trans sc3.kp) h3
              rw [aChoose_y ⟨hjT, hz.mp (z11 q), fun S hS hg => by have := hJ S hS hg; omega⟩] at k'
              exact k'
      have g0 := G _ 0 X2 Y2 (Nat.zero_add _) kp2 h2 p2 (fun S hS hg => by have := hI S hS hg; omega)
      apply hX8_choose_19_i
      rw [m_lt (by omega) (by omega)]
      refine ⟨fun h => by omega, fun _ => ⟨fun e => ?_, fun e => ?_⟩⟩
      · have e' : m = 0 := e
        rw [hw, if_pos e'] at g0; exact g0
      · have e' : ¬ m = 0 := e
        rw [hw, if_neg e'] at g0
        rw [m_sub ht']; exact g0
  exact H _ 0 X1 Y1 (Nat.zero_add _) kp h1 p1 (fun S _ _ => Nat.zero_le _)
end Choose8
section Choose9
variable {CM : HX → St → Prop} {X X' : HX} {Y Y' : HY} {s : St} {r : Ly} {Q : Qt}
theorem X9_choose_s {m : Int32} (h : Mw CM X Y s) (k : ∀ X' Y' res, ScM X X' Y Y' → Mw CM X' Y' s → ansM cd1 (aChoose s m) (X' 0 0) res → Q res (LX9 ++ r) X' Y') : tX9_choose [.ref 0, .int m] (LX9 ++ r) X Y Q := by
  have s0 : ScM X (up2 X 0 0 (nI 0)) Y Y := .up (by decide)
  have n8 := nO8 s
  have hN : 2 ^ nO s ≤ 512 := pw9 (by omega)
  have l36 := ops_len (F := sFo s) h.si
  have g9 := h.si.1
  apply tX9_choose_i
  refine Q9_plain (h.sc s0) (fun X1 sc1 e1 h1 _ o1 _ => cK0_mk ?_)
  -- the best so far
  have H : ∀ t j (z : Int) X2, j + t = 2 ^ nO s → ScM X X2 Y Y → X2 0 0 = nI 0 → Mw CM X2 Y s → ((z = -1 ∧ ∀ S, S < j → ¬ goodC s S) ∨ ∃ R : Nat, z = R ∧ esP (dC s m) (goodC s) j R) → hX9_choose_33 Q r m (nI (nO s)) (zI z) (nI j) X2 Y := by
    intro t
    induction t with
    | zero =>
      intro j z X2 hj sc2 e2 h2 hI
      have ej : j = 2 ^ nO s := by omega
      subst ej
      apply hX9_choose_33_i
      simp (disch := omega) only [m_0, m_L0, m_lt, m_le, m_eq, m_neg, m_in, m_clamp, m_add, m_sub, m_pred, m_mul, m_l, m_i, m_Land, m_Lor, m_and, m_or, m_xor, m_Landn, m_andn, m_LshlP, m_shl, m_LbitP, m_bit, m_cmp0P, m_Lb0, m_Lb1, m_b0, m_b1, Nat.one_mul]
      refine ⟨fun _ => ?_, fun h => by omega⟩
      have kk := k X2 Y (rI (zI z)) sc2 h2
      rw [e2] at kk
      rcases hI with ⟨rfl, q⟩ | ⟨R, rfl, q⟩
      · rw [aChoose_n q] at kk; exact kk ⟨rfl, rfl⟩
      · rw [aChoose_y q] at kk; exact kk ⟨rfl, rfl⟩
    | succ t ih =>
      intro j z X2 hj sc2 e2 h2 hI
      have hjT : j < 2 ^ nO s := by omega
      apply hX9_choose_33_i
      simp (disch := omega) only [m_0, m_L0, m_lt, m_le, m_eq, m_neg, m_in, m_clamp, m_add, m_sub, m_pred, m_mul, m_l, m_i, m_Land, m_Lor, m_and, m_or, m_xor, m_Landn, m_andn, m_LshlP, m_shl, m_LbitP, m_bit, m_cmp0P, m_Lb0, m_Lb1, m_b0, m_b1, Nat.one_mul]
      refine ⟨fun h => by omega, fun _ => Q9_plain h2 (fun X3 sc3 e3 h3 n3 o3 v3 => cK0_mk ?_)⟩
      have G : ∀ u i X4, i + u = nO s → ScM X X4 Y Y → X4 0 0 = nI 0 → Mw CM X4 Y s → OV X4 25 26 (ops s (sFo s)) 40 → (∀ x, x < 10 → X4 7 x = nI (chM s j i x)) → hX9_choose_48 Q r m (nI (nO s)) (zI z) (nI j) (nI i) X4 Y := by
        intro u
        induction u with
        | zero =>
          intro i X4 hi sc4 e4 h4 v4 m4
          have ei : i = nO s := by omega
          subst ei
          have ok := chM_ok (T := j) h.si (n := nO s) (Nat.le_refl _)
          have c1 := cnt_le j
          have cj := cnt_n (n := nO s) (by omega) hjT
          apply hX9_choose_48_i
          simp (disch := omega) only [m_0, m_L0, m_lt, m_le, m_eq, m_neg, m_in, m_clamp, m_add, m_sub, m_pred, m_mul, m_l, m_i, m_Land, m_Lor, m_and, m_or, m_xor, m_Landn, m_andn, m_LshlP, m_shl, m_LbitP, m_bit, m_cmp0P, m_Lb0, m_Lb1, m_b0, m_b1, Nat.one_mul]
          refine ⟨fun _ => Q9_all h4 (cK1_mk (X9_canBe_s (M := chM s j (nO s)) (fun x hx => ⟨m4 x hx, by have := ok.2 x; omega⟩) ok.1 (full10 h.si) (fun y X5 f5 hy => cK1_mk ?_))), fun h => by omega⟩
          have sc5 : ScM X4 X5 Y Y := .cell (by decide) f5
          have skip : (goodC s j → ∃ R : Nat, z = R ∧ dC s m R ≤ dC s m j) → hX9_choose_33 Q r m (nI (nO s)) (zI z) (nI (j + 1)) X5 Y := fun hs => by
            refine ih (j + 1) z X5 (by omega) (sc4.trans sc5) (by rw [f5 0 (by omega)]; exact e4) (h4.sc sc5) ?_
            rcases hI with ⟨hz, q⟩ | ⟨R, hz, q⟩
            · refine Or.inl ⟨hz, fun S hS hg => ?_⟩
              by_cases e : S = j
              · subst e; obtain ⟨R, hR, _⟩ := hs hg; omega
              · exact q S (by omega) hg
            · refine Or.inr ⟨R, hz, by have := q.1; omega, q.2.1, fun S hS hg => ?_⟩
              by_cases e : S = j
              · subst e
                obtain ⟨R', hR, hle⟩ := hs hg
                have : R' = R := by omega
                subst this
                have := q.1; omega
              · exact q.2.2 S (by omega) hg
          have take : goodC s j → (∀ R : Nat, z = R → dC s m j < dC s m R) → hX9_choose_33 Q r m (nI (nO s)) (nI j) (nI (j + 1)) X5 Y := fun hg hs => by
            have h9 := ih (j + 1) (j : Int) X5 (by omega) (sc4.trans sc5) (by rw [f5 0 (by omega)]; exact e4) (h4.sc sc5) (Or.inr ⟨j, rfl, by omega, hg, fun S hS hgS => ?_⟩)
            · exact h9
            · by_cases e : S = j
              · subst e; exact Or.inr ⟨rfl, Nat.le_refl _⟩
              · rcases hI with ⟨hz, q⟩ | ⟨R, hz, q⟩
                · exact absurd hgS (q S (by omega))
                · have := hs R hz
                  have := q.2.2 S (by omega) hgS; omega
          refine ⟨fun q => ?_, fun q => skip (fun g => absurd (by rw [hy.mpr g]; decide) q)⟩
          have hg : goodC s j := hy.mp (z11 q)
          refine bc32 (by omega) (cK1_mk ?_)
          rcases hI with ⟨rfl, qI⟩ | ⟨R, rfl, qI⟩
          · exact ⟨fun _ => take hg (fun R hR => by omega), fun q => absurd rfl q⟩
          · have hR := qI.1
            have cR := cnt_n (n := nO s) (S := R) (by omega) (by omega)
            rw [m_zI]
            refine ⟨fun q => absurd q (nI_m1 (by omega)), fun _ => ⟨fun e => ?_, fun e => ?_⟩⟩
            · have e' : m = 0 := e
              refine bc32 (by omega) (cK1_mk ?_)
              rw [m_le (by omega) (by omega)]
              refine ⟨fun hle => skip (fun _ => ⟨R, rfl, ?_⟩), fun hle => take hg (fun R' hR' => ?_)⟩
              · unfold dC; rw [if_pos e', if_pos e']; omega
              · have : R' = R := by omega
                subst this
                unfold dC; rw [if_pos e', if_pos e']; omega
            · have e' : ¬ m = 0 := e
              refine bc32 (by omega) (cK1_mk ?_)
              rw [m_le (by omega) (by omega)]
              refine ⟨fun hle => skip (fun _ => ⟨R, rfl, ?_⟩), fun hle => take hg (fun R' hR' => ?_)⟩
              · unfold dC; rw [if_neg e', if_neg e']; omega
              · have : R' = R := by omega
                subst this
                unfold dC; rw [if_neg e', if_neg e']; omega
        | succ u ihu =>
          intro i X4 hi sc4 e4 h4 v4 m4
          have hiO : i < nO s := by omega
          have ho := op_in hiO
          obtain ⟨o1, o2⟩ := v4 i _ (by omega) (op_at hiO)
          apply hX9_choose_48_i
          simp (disch := omega) only [m_0, m_L0, m_lt, m_le, m_eq, m_neg, m_in, m_clamp, m_add, m_sub, m_pred, m_mul, m_l, m_i, m_Land, m_Lor, m_and, m_or, m_xor, m_Landn, m_andn, m_LshlP, m_shl, m_LbitP, m_bit, m_cmp0P, m_Lb0, m_Lb1, m_b0, m_b1, Nat.one_mul, o1, o2]
          refine ⟨fun h => by omega, fun _ => ⟨fun hb => ihu (i + 1) X4 (by omega) sc4 e4 h4 v4 (fun x hx => by rw [m4 x hx, chM_succ, if_neg hb]), fun hb => ⟨by omega, by omega, X9_link_s m4 (by omega) (by omega) (by omega) (fun X5 f5 m5 => cK0_mk ?_)⟩⟩⟩
          have sc5 : ScM X4 X5 Y Y := .cell (by decide) f5
          refine ihu (i + 1) X5 (by omega) (sc4.trans sc5) (by rw [f5 0 (by omega)]; exact e4) (h4.sc sc5) (fun t p ht hp => by rw [f5 25 (by omega), f5 26 (by omega)]; exact v4 t p ht hp) (fun x hx => ?_)
          rw [m5 x hx, chM_succ, if_pos (Classical.not_not.mp hb)]
      exact G _ 0 X3 (Nat.zero_add _) (sc2.trans sc3) (by rw [e3]; exact e2) h3 v3 (fun x hx => (n3 x hx).1)
  have st := s0.trans sc1
  have e0 : X1 0 0 = nI 0 := by rw [e1, up2_same]
  have h9 := H _ 0 (-1) X1 (Nat.zero_add _) st e0 h1 (Or.inl ⟨rfl, fun S hS => by omega⟩)
  rw [o1, m_le (by omega) (by omega)]
  refine ⟨fun q => ?_, fun q => ?_⟩
  · have : nO s = 8 := by unfold nO; omega
    rw [this] at h9; exact h9
  · have : nO s = (ops s (sFo s)).length := by unfold nO; omega
    rw [this] at h9; exact h9
end Choose9
