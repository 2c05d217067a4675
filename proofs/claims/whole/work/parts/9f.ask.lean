/-! the pair to be asked next -/
/-- how many ways, with these met -/
noncomputable def lyC (M : Nat → Nat) (G : Nat) : Nat := cif (cnB M (2 ^ G - 1)) (wy (mN M G) (mayS (rwM M G) G) 0) 0
def akJ (s : St) (k : Nat) : Nat → Nat := jn (Ms s) (opA s k) (opB s k)
noncomputable def akM (s : St) (k : Nat) : Nat := max (lyC (Ms s) (sG s)) (lyC (akJ s k) (sG s))
noncomputable def aAsk (s : St) : Rs := rI (cif (nO s = 0) (-1) (nI (Classical.epsilon (esP (akM s) (fun _ => True) (nO s)))))
def akI (s : St) (j : Nat) (z : Int) (f : Nat) : Prop := (j = 0 ∧ z = -1 ∧ f = 0) ∨ ∃ R : Nat, z = R ∧ f = akM s R ∧ esP (akM s) (fun _ => True) j R
theorem akI_end {s : St} {z : Int} {f : Nat} (h : akI s (nO s) z f) : aAsk s = rI (zI z) := by
  unfold aAsk
  rcases h with ⟨h, rfl, -⟩ | ⟨R, rfl, -, h⟩
  · rw [cif_y h]; rfl
  · rw [cif_n (fun q => by have := h.1; omega), eps_uq h (fun _ hy => esP_uq hy h)]; rfl
theorem akI_new {s : St} {j : Nat} {z : Int} {f : Nat} (h : akI s j z f) (hn : z = -1 ∨ akM s j < f) : akI s (j + 1) (j : Int) (akM s j) := by
  refine Or.inr ⟨j, rfl, rfl, by omega, trivial, fun S hS _ => ?_⟩
  by_cases e : S = j
  · subst e; exact Or.inr ⟨rfl, Nat.le_refl _⟩
  · rcases h with ⟨h, -, -⟩ | ⟨R, hz, hf, h⟩
    · omega
    · have h2 := h.2.2 S (by omega) trivial
      rcases hn with hn | hn <;> omega
theorem akI_old {s : St} {j : Nat} {z : Int} {f : Nat} (h : akI s j z f) (h1 : z ≠ -1) (h2 : f ≤ akM s j) : akI s (j + 1) z f := by
  rcases h with ⟨-, h, -⟩ | ⟨R, hz, hf, h⟩
  · exact absurd h h1
  · refine Or.inr ⟨R, hz, hf, by have := h.1; omega, trivial, fun S hS _ => ?_⟩
    have h0 := h.1
    by_cases e : S = j
    · subst e; omega
    · exact h.2.2 S (by omega) trivial
theorem akI_z {s : St} {j : Nat} {z : Int} {f : Nat} (h : akI s j z f) (hj : j < 2147483648) : zI z = -1 ↔ z = -1 := by
  rcases h with ⟨-, rfl, -⟩ | ⟨R, rfl, -, h⟩
  · exact ⟨fun _ => rfl, fun _ => rfl⟩
  · have := h.1
    exact ⟨fun q => absurd q (nI_m1 (by omega)), fun q => by omega⟩
theorem kc_le {x y : Int64} : lg_cmp x y ≤ 0 ↔ x ≤ y := by
  unfold lg_cmp
  by_cases h : x > y
  · rw [if_pos h]
    have h' : y.toInt < x.toInt := Int64.lt_iff_toInt_lt.mp h
    exact ⟨fun q => absurd q (by decide), fun q => by have := Int64.le_iff_toInt_le.mp q; omega⟩
  · rw [if_neg h]
    have h' : ¬ y.toInt < x.toInt := fun q => h (Int64.lt_iff_toInt_lt.mpr q)
    have e : x ≤ y := Int64.le_iff_toInt_le.mpr (by omega)
    by_cases h2 : x = y
    · rw [if_pos h2]; exact ⟨fun _ => e, fun _ => by decide⟩
    · rw [if_neg h2]; exact ⟨fun _ => e, fun _ => by decide⟩
theorem kc_ge {x y : Int64} : 0 ≤ lg_cmp x y ↔ y ≤ x := by
  unfold lg_cmp
  by_cases h : x > y
  · rw [if_pos h]
    have h' : y.toInt < x.toInt := Int64.lt_iff_toInt_lt.mp h
    exact ⟨fun _ => Int64.le_iff_toInt_le.mpr (by omega), fun _ => by decide⟩
  · rw [if_neg h]
    have h' : ¬ y.toInt < x.toInt := fun q => h (Int64.lt_iff_toInt_lt.mpr q)
    by_cases h2 : x = y
    · rw [if_pos h2, h2]; exact ⟨fun _ => Int64.le_iff_toInt_le.mpr (by omega), fun _ => by decide⟩
    · rw [if_neg h2]
      refine ⟨fun q => absurd q (by decide), fun q => absurd ?_ h2⟩
      have := Int64.le_iff_toInt_le.mp q
      exact Int64.toInt_inj.mp (by omega)
section AskG
variable {M : Nat → Nat} {G : Nat}
theorem may_eqG (hG : G ≤ 9) : mayG (mo M G) (mN M G) P0 = mayS (rwM M G) G := by
  funext c k
  apply propext
  constructor
  · rintro ⟨h, -⟩ v hv
    exact h v (by omega)
  · intro h
    refine ⟨fun v hv h1 h2 => ?_, fun j hj => by simp [P0, Bs] at hj⟩
    by_cases q : v < G
    · exact h v q h1 h2
    · obtain ⟨j, hj, -⟩ := h1
      obtain ⟨q1, q2⟩ := rwG_bit.mp hj
      exact absurd (mo_bit q1 q2) q
theorem mayN_eqG (h : mN M G ≤ 9) : mayN (rwF M G) G [] none = mayS (rwM M G) G := by
  funext c k
  apply propext
  have e : rwF M G = rwM M G := by
    funext v; unfold rwF; rw [if_pos (by omega)]
  rw [e]
  exact ⟨fun q => q.1, fun q => ⟨q, fun p hp => by simp at hp, trivial⟩⟩
theorem X3_ly_s {X : HX} {Y : HY} {Q : Qt} {r : Ly} (hs : ∀ a b, Eo M a b → Eo M b a) (hi : ∀ a, ¬ Eo M a a) (hG : G ≤ 9) (hC : CV X (mN M G) (mo M G) P0) (k : lyC M G ≤ 387420489 → Q (.inl (some (.int (nI (lyC M G))))) (LX3 ++ r) X Y) : tX3_layings [.ref 0] (LX3 ++ r) X Y Q := by
  have ci := can_iff (M := M) (G := G) hs hi hG
  refine X3_layings_s hC (fun n hn n1 n2 => ?_)
  have e : n = lyC M G := by
    unfold lyC
    by_cases q : cnB M (2 ^ G - 1)
    · rw [cif_y q, n1 (by unfold ldP; rw [may_eqG hG]; exact ci.mp q), may_eqG hG]
    · rw [cif_n q, n2 (fun z => q (ci.mpr (by unfold ldP at z; rw [may_eqG hG] at z; exact z)))]
  rw [e] at hn ⊢
  exact k hn
end AskG
theorem akJ_ok {s : St} {k : Nat} (hI : SI s) (hk : k < nO s) : GM 10 (akJ s k) ∧ (∀ i, akJ s k i < 1024) ∧ (∀ a b, Eo (akJ s k) a b → Eo (akJ s k) b a) ∧ (∀ a, ¬ Eo (akJ s k) a a) ∧ ∀ i j, Eo (akJ s k) i j → i < sG s ∧ j < sG s := by
  have ho := op_in hk
  have g9 := hI.1
  have gm : GM 10 (akJ s k) := jn_gm (Ms_gm hI) (by omega) (by omega) (by omega)
  refine ⟨gm, jn_lt (n := 10) (fun i => by have h := Ms_lt hI i; show Ms s i < 2 ^ 10; omega) (by omega) (by omega), fun a b e => (gm a b e).2.2.2, fun a e => (gm a a e).2.2.1 rfl, fun i j e => ?_⟩
  rcases (jn_eo (by omega)).mp e with q | ⟨rfl, rfl⟩ | ⟨rfl, rfl⟩
  · exact Ms_bd i j q
  · exact ⟨by omega, by omega⟩
  · exact ⟨by omega, by omega⟩
abbrev S57 : List Nat := [57, 58, 59, 60, 61, 62, 63, 64]
section Ask8
variable {CK S1 S2 : HX → St → Prop} {X X' : HX} {Y Y' : HY} {s : St} {b : Bool} {Q : Qt}
theorem PV57 {P : Nat → Nat} (h : PV (sb S57 X) P) (e : X' 61 = X 61) : PV (sb S57 X') P := fun k hk => by
  have := h k hk
  show X' 61 k = _ ∧ _
  rw [e]; exact this
/-- what the tried Layings find -/
theorem Q8_tmoms {M : Nat → Nat} (h : Qw CK S1 S2 X Y s) (hM : ∀ i, i < 10 → Y 38 i = lN (M i)) (hb : ∀ i j, Eo M i j → i < sG s ∧ j < sG s) (hs : ∀ a b, Eo M a b → Eo M b a) (hir : ∀ a, ¬ Eo M a a) {C : HX → HY → Prop} (k : ∀ X' Y', Scr b X X' Y Y' → Qw CK S1 S2 X' Y' s → LV (sb S57 X') (mN M (sG s)) (mo M (sG s)) → C X' Y') : tX3_findMoments [.ref 0, .ref 8, .int (nI (sG s))] (LX3_4 ++ []) (sb [57, 58, 59, 60, 61, 62, 63, 64, 37, 38, 39, 40] X) (sb [57, 58, 59, 60, 61, 62, 63, 64, 37, 38, 39, 40] Y) (cS0 (LX3_4 ++ []) (LX8 b) [57, 58, 59, 60, 61, 62, 63, 64, 37, 38, 39, 40] (LX8 b).length X Y Q C) := by
  have n79 := nC8_79 b
  have ln : (LX8 b).length = nC8 b := rfl
  refine X3_moms_s (r := []) (M := M) (G := sG s) h.si.1 (fun i hi => hM i hi) hb hs hir (fun X3 f3 g3 v3 => cS0_mk ?_)
  rw [ln]
  have fa : ∀ c, c < nC8 b → c ∉ [57, 58, 62] → mg [57, 58, 59, 60, 61, 62, 63, 64, 37, 38, 39, 40] (nC8 b) X X3 c = X c := fun c hc hd => mg_fr (ch := [0, 1, 5]) (fun i _ hj => f3 i (fun e => hj (by simp [e])) (fun e => hj (by simp [e])) (fun e => hj (by simp [e]))) hc (by simpa using hd)
  have ya : ∀ c, c < nC8 b → mg [57, 58, 59, 60, 61, 62, 63, 64, 37, 38, 39, 40] (nC8 b) Y (sb [57, 58, 59, 60, 61, 62, 63, 64, 37, 38, 39, 40] Y) c = Y c := fun c hc => mg_sb hc
  have a0 : mg [57, 58, 59, 60, 61, 62, 63, 64, 37, 38, 39, 40] (nC8 b) X X3 57 = X3 0 := mg_in 0 (by omega) rfl rfl
  have a1 : mg [57, 58, 59, 60, 61, 62, 63, 64, 37, 38, 39, 40] (nC8 b) X X3 58 = X3 1 := mg_in 1 (by omega) rfl rfl
  have sc : Scr b X (mg [57, 58, 59, 60, 61, 62, 63, 64, 37, 38, 39, 40] (nC8 b) X X3) Y (mg [57, 58, 59, 60, 61, 62, 63, 64, 37, 38, 39, 40] (nC8 b) Y (sb [57, 58, 59, 60, 61, 62, 63, 64, 37, 38, 39, 40] Y)) := ⟨fun c hc hd => fa c hc (fun e => hd (by simp only [List.mem_cons, List.not_mem_nil, or_false] at e ⊢; omega)), by rw [fa 33 (by omega) (by simp)], by rw [fa 37 (by omega) (by simp)], fun c hc _ => ya c hc⟩
  refine k _ _ sc (h.scr sc) ⟨v3.1, ?_, fun t ht => ?_⟩
  · show mg [57, 58, 59, 60, 61, 62, 63, 64, 37, 38, 39, 40] (nC8 b) X X3 57 3 = _; rw [a0]; exact v3.2.1
  · show mg [57, 58, 59, 60, 61, 62, 63, 64, 37, 38, 39, 40] (nC8 b) X X3 58 t = _ ∧ _; rw [a1]; exact v3.2.2 t ht
theorem Q8_tfind {m : Nat} {mos : Nat → Nat} (h : Qw CK S1 S2 X Y s) (pv : PV (sb S57 X) P0) (v : LV (sb S57 X) m mos) {C : HX → HY → Prop} (k : ∀ X' Y', Scr b X X' Y Y' → Qw CK S1 S2 X' Y' s → CV (sb S57 X') m mos P0 → C X' Y') : tX3_findLayings [.ref 0] (LX3 ++ []) (sb S57 X) (sb S57 Y) (cS0 (LX3 ++ []) (LX8 b) S57 (LX8 b).length X Y Q C) := by
  have n79 := nC8_79 b
  have ln : (LX8 b).length = nC8 b := rfl
  refine X3_find_s (r := []) v pv (fun X4 f4 c4 => cS0_mk ?_)
  rw [ln]
  have fb : ∀ c, c < nC8 b → c ∉ [62, 63, 64] → mg S57 (nC8 b) X X4 c = X c := fun c hc hd => mg_fr (ch := [5, 6, 7]) (fun i _ hj => f4 i (fun e => hj (by simp [e])) (fun e => hj (by simp [e])) (fun e => hj (by simp [e]))) hc (by simpa using hd)
  have yb : ∀ c, c < nC8 b → mg S57 (nC8 b) Y (sb S57 Y) c = Y c := fun c hc => mg_sb hc
  have c0 : mg S57 (nC8 b) X X4 57 = X4 0 := mg_in 0 (by omega) rfl rfl
  have sc : Scr b X (mg S57 (nC8 b) X X4) Y (mg S57 (nC8 b) Y (sb S57 Y)) := ⟨fun c hc hd => fb c hc (fun e => hd (by simp only [List.mem_cons, List.not_mem_nil, or_false] at e ⊢; omega)), by rw [fb 33 (by omega) (by simp)], by rw [fb 37 (by omega) (by simp)], fun c hc _ => yb c hc⟩
  exact k _ _ sc (h.scr sc) (CV_c c4 (by show mg S57 (nC8 b) X X4 57 3 = _; rw [c0]) (show mg S57 (nC8 b) X X4 58 = X4 1 from mg_in 1 (by omega) rfl rfl) (show mg S57 (nC8 b) X X4 61 = X4 4 from mg_in 4 (by omega) rfl rfl) (show mg S57 (nC8 b) X X4 62 = X4 5 from mg_in 5 (by omega) rfl rfl) (show mg S57 (nC8 b) X X4 64 = X4 7 from mg_in 7 (by omega) rfl rfl))
theorem X8_ask_s (h : Qw CK S1 S2 X Y s) (pv : PV (sb S57 X) P0) (k : ∀ X' Y', Kp b X X' Y Y' → Qw CK S1 S2 X' Y' s → Q (aAsk s) (LX8 b) X' Y') : tX8_ask b [.ref 0] (LX8 b) X Y Q := by
  have n79 := nC8_79 b
  have n8 := nO8 s
  have no : nO s = min (ops s (sFo s)).length 8 := rfl
  have l36 := ops_len (F := sFo s) h.si
  have g9 := h.si.1
  apply tX8_ask_i
  refine Q8_lays h (fun X1 Y1 kp1 h1 e4 p1 l1 => cK0_mk ?_)
  have v1 : PV (sb S57 X1) P0 := PV57 pv (kp1 61 (by omega) (by omega)).1
  have H : ∀ n j (z : Int) (f : Nat) X2 Y2, j + n = nO s → Scr b X1 X2 Y1 Y2 → Qw CK S1 S2 X2 Y2 s → akI s j z f → f ≤ 387420489 → hX8_ask_10 Q b (zI z) (nI f) (nI j) X2 Y2 := by
    intro n
    induction n with
    | zero =>
      intro j z f X2 Y2 hj sc2 h2 hI hf
      have e : j = nO s := by omega
      subst e
      have p2 := sc2.pk p1
      have fin := k X2 Y2 (kp1.trans sc2.kp) h2
      rw [akI_end hI] at fin
      apply hX8_ask_10_i
      simp (disch := omega) only [m_0, m_L0, m_lt, m_le, m_eq, m_neg, m_in, m_clamp, m_add, m_sub, m_pred, m_mul, m_l, m_i, m_Land, m_Lor, m_and, m_or, m_xor, m_Landn, m_andn, m_LshlP, m_shl, m_LbitP, m_bit, m_cmp0P, m_Lb0, m_Lb1, m_b0, m_b1, Nat.one_mul, p2.2.2.1]
      exact ⟨fun _ => fin, fun q1 => ⟨fun _ => fin, fun q2 => by omega⟩⟩
    | succ n ih =>
      intro j z f X2 Y2 hj sc2 h2 hI hf
      have p2 := sc2.pk p1
      have hjO : j < nO s := by omega
      have ho := op_in hjO
      have J := akJ_ok h.si hjO
      apply hX8_ask_10_i
      simp (disch := omega) only [m_0, m_L0, m_lt, m_le, m_eq, m_neg, m_in, m_clamp, m_add, m_sub, m_pred, m_mul, m_l, m_i, m_Land, m_Lor, m_and, m_or, m_xor, m_Landn, m_andn, m_LshlP, m_shl, m_LbitP, m_bit, m_cmp0P, m_Lb0, m_Lb1, m_b0, m_b1, Nat.one_mul, p2.2.2.1]
      refine ⟨fun q => by omega, fun _ => ⟨fun q => by omega, fun _ => Q8_copy h2 p2 (fun X3 Y3 sc3 h3 p3 m3 => ⟨by omega, by omega, ?_⟩)⟩⟩
      obtain ⟨o1, o2⟩ := p3.2.2.2 j _ (by omega) (op_at hjO)
      rw [o1, o2]
      refine Q8_join h3 m3 (by omega) (by omega) (by omega) (fun X4 Y4 sc4 h4 m4 => ?_)
      rw [h4.bv.1]
      refine Q8_tmoms (M := akJ s j) h4 m4 J.2.2.2.2 J.2.2.1 J.2.2.2.1 (fun X5 Y5 sc5 h5 v5 => ?_)
      have sc25 := ((sc2.trans sc3).trans sc4).trans sc5
      refine Q8_tfind h5 (PV57 v1 (sc25.x (by omega) (by decide))) v5 (fun X6 Y6 sc6 h6 c6 => ?_)
      have sc26 := sc25.trans sc6
      refine X3_ly_s (r := []) (M := Ms s) (G := sG s) (Ms_sym h.si) (Ms_irr h.si) g9 (sc26.lk l1).1 (fun b1 => cS1_mk ?_)
      have e7 := Eq8.mg (b := b) (X := X6) (Y := Y6) S41
      refine X3_ly_s (r := []) (M := akJ s j) (G := sG s) J.2.2.1 J.2.2.2.1 g9 (CV_c c6 ?_ (e7 58 (by omega)).1 (e7 61 (by omega)).1 (e7 62 (by omega)).1 (e7 64 (by omega)).1) (fun b2 => cS1_mk (tMax_i (cK1_mk ?_)))
      · show mg S41 (LX8 b).length X6 (sb S41 X6) 57 3 = X6 57 3
        rw [(e7 57 (by omega)).1]
      revert e7
      generalize mg S41 (LX8 b).length X6 (sb S41 X6) = X7
      generalize mg S41 (LX8 b).length Y6 (sb S41 Y6) = Y7
      intro e7
      have e8 := Eq8.mg (b := b) (X := X7) (Y := Y7) S57
      revert e8
      generalize mg S57 (LX8 b).length X7 (sb S57 X7) = X8
      generalize mg S57 (LX8 b).length Y7 (sb S57 Y7) = Y8
      intro e8
      have em : (if nI (lyC (Ms s) (sG s)) < nI (lyC (akJ s j) (sG s)) then nI (lyC (akJ s j) (sG s)) else nI (lyC (Ms s) (sG s))) = nI (akM s j) := by
        unfold akM
        by_cases q : lyC (Ms s) (sG s) < lyC (akJ s j) (sG s)
        · rw [if_pos ((m_lt (by omega) (by omega)).mpr q)]; congr 1; omega
        · rw [if_neg (fun z => q ((m_lt (by omega) (by omega)).mp z))]; congr 1; omega
      rw [em]
      have bk : akM s j ≤ 387420489 := by unfold akM; omega
      have sc8 := (sc26.trans e7.scr).trans e8.scr
      have h8 := (h6.scr e7.scr).scr e8.scr
      have zz := akI_z hI (by omega)
      refine ⟨fun q => ih (j + 1) (j : Int) (akM s j) X8 Y8 (by omega) sc8 h8 (akI_new hI (Or.inl (zz.mp q))) bk, fun q => ?_⟩
      rw [m_le (by omega) (by omega)]
      exact ⟨fun q2 => ih (j + 1) z f X8 Y8 (by omega) sc8 h8 (akI_old hI (fun y => q (zz.mpr y)) q2) hf, fun q2 => ih (j + 1) (j : Int) (akM s j) X8 Y8 (by omega) sc8 h8 (akI_new hI (Or.inr (by omega))) bk⟩
  exact H _ 0 (-1) 0 X1 Y1 (Nat.zero_add _) ⟨fun _ _ _ => rfl, rfl, rfl, fun _ _ _ => rfl⟩ h1 (Or.inl ⟨rfl, rfl, rfl⟩) (by omega)
end Ask8
section Ask9
variable {CM : HX → St → Prop} {X X' : HX} {Y Y' : HY} {s : St} {r : Ly} {Q : Qt}
theorem ak_step {j : Nat} {z : Int} {f w : Nat} {A : Int32 → Int64 → Prop} (hI : akI s j z f) (hj : j < 2147483648) (ew : akM s j = max (lyC (Ms s) (sG s)) w) (b1 : lyC (Ms s) (sG s) ≤ 387420489) (b2 : w ≤ 387420489) (b3 : f ≤ 387420489) (hA : ∀ (z' : Int) (f' : Nat), akI s (j + 1) z' f' → f' ≤ 387420489 → A (zI z') (lN f')) : (lg_cmp (lN w) (lN (lyC (Ms s) (sG s))) ≤ 0 → (zI z = -1 → A (nI j) (lN (lyC (Ms s) (sG s)))) ∧ (¬ (zI z = -1) → (0 ≤ lg_cmp (lN (lyC (Ms s) (sG s))) (lN f) → A (zI z) (lN f)) ∧ (¬ (0 ≤ lg_cmp (lN (lyC (Ms s) (sG s))) (lN f)) → A (nI j) (lN (lyC (Ms s) (sG s)))))) ∧ (¬ (lg_cmp (lN w) (lN (lyC (Ms s) (sG s))) ≤ 0) → (zI z = -1 → A (nI j) (lN w)) ∧ (¬ (zI z = -1) → (0 ≤ lg_cmp (lN w) (lN f) → A (zI z) (lN f)) ∧ (¬ (0 ≤ lg_cmp (lN w) (lN f)) → A (nI j) (lN w)))) := by
  have zz := akI_z hI hj
  have bk : akM s j ≤ 387420489 := by omega
  rw [kc_le, pk_lLE (by omega) (by omega)]
  refine ⟨fun q1 => ?_, fun q1 => ?_⟩
  · have e : akM s j = lyC (Ms s) (sG s) := by omega
    rw [← e, kc_ge, pk_lLE (by omega) (by omega)]
    exact ⟨fun q => hA (j : Int) _ (akI_new hI (Or.inl (zz.mp q))) bk, fun q => ⟨fun q2 => hA z f (akI_old hI (fun y => q (zz.mpr y)) q2) b3, fun q2 => hA (j : Int) _ (akI_new hI (Or.inr (by omega))) bk⟩⟩
  · have e : akM s j = w := by omega
    rw [← e, kc_ge, pk_lLE (by omega) (by omega)]
    exact ⟨fun q => hA (j : Int) _ (akI_new hI (Or.inl (zz.mp q))) bk, fun q => ⟨fun q2 => hA z f (akI_old hI (fun y => q (zz.mpr y)) q2) b3, fun q2 => hA (j : Int) _ (akI_new hI (Or.inr (by omega))) bk⟩⟩
theorem lyC_le {M : Nat → Nat} {G : Nat} (hs : ∀ a b, Eo M a b → Eo M b a) (hi : ∀ a, ¬ Eo M a a) (hG : G ≤ 9) : lyC M G ≤ 387420489 := by
  have ci := can_iff (M := M) (G := G) hs hi hG
  unfold lyC
  by_cases q : cnB M (2 ^ G - 1)
  · rw [cif_y q]
    have h9 := (ci.mp q).1
    exact wy_bd9 h9 (Nat.two_pow_pos _)
  · rw [cif_n q]; omega
theorem X9_ask_s (h : Mw CM X Y s) (k : ∀ X' Y' res, ScM X X' Y Y' → Mw CM X' Y' s → ansM cd1 (aAsk s) (X' 0 0) res → Q res (LX9 ++ r) X' Y') : tX9_ask [.ref 0] (LX9 ++ r) X Y Q := by
  have s0 : ScM X (up2 X 0 0 (nI 0)) Y Y := .up (by decide)
  have n8 := nO8 s
  have l36 := ops_len (F := sFo s) h.si
  have g9 := h.si.1
  have bL := lyC_le (Ms_sym h.si) (Ms_irr h.si) g9
  apply tX9_ask_i
  refine Q9_plain (h.sc s0) (fun X1 sc1 e1 h1 _ o1 _ => cK0_mk ?_)
  have H : ∀ t j (z : Int) (f : Nat) X2 Y2, j + t = nO s → ScM X X2 Y Y2 → X2 0 0 = nI 0 → Mw CM X2 Y2 s → akI s j z f → f ≤ 387420489 → hX9_ask_55 Q r (nI (nO s)) (lN (lyC (Ms s) (sG s))) (zI z) (lN f) (nI j) X2 Y2 := by
    intro t
    induction t with
    | zero =>
      intro j z f X2 Y2 hj sc2 e2 h2 hI hf
      have ej : j = nO s := by omega
      subst ej
      apply hX9_ask_55_i
      simp (disch := omega) only [m_0, m_L0, m_lt, m_le, m_eq, m_neg, m_in, m_clamp, m_add, m_sub, m_pred, m_mul, m_l, m_i, m_Land, m_Lor, m_and, m_or, m_xor, m_Landn, m_andn, m_LshlP, m_shl, m_LbitP, m_bit, m_cmp0P, m_Lb0, m_Lb1, m_b0, m_b1, Nat.one_mul]
      refine ⟨fun _ => ?_, fun h => by omega⟩
      have kk := k X2 Y2 (rI (zI z)) sc2 h2
      rw [e2, akI_end hI] at kk
      exact kk ⟨rfl, rfl⟩
    | succ t ih =>
      intro j z f X2 Y2 hj sc2 e2 h2 hI hf
      have hjO : j < nO s := by omega
      have ho := op_in hjO
      have J := akJ_ok h.si hjO
      have bJ := lyC_le J.2.2.1 J.2.2.2.1 g9
      apply hX9_ask_55_i
      simp (disch := omega) only [m_0, m_L0, m_lt, m_le, m_eq, m_neg, m_in, m_clamp, m_add, m_sub, m_pred, m_mul, m_l, m_i, m_Land, m_Lor, m_and, m_or, m_xor, m_Landn, m_andn, m_LshlP, m_shl, m_LbitP, m_bit, m_cmp0P, m_Lb0, m_Lb1, m_b0, m_b1, Nat.one_mul]
      refine ⟨fun h => by omega, fun _ => Q9_plain h2 (fun X3 sc3 e3 h3 n3 o3 v3 => cK0_mk ⟨by omega, by omega, ?_⟩)⟩
      obtain ⟨q1, q2⟩ := v3 j _ (by omega) (op_at hjO)
      rw [q1, q2]
      refine X9_link_s (fun x hx => (n3 x hx).1) (by omega) (by omega) (by omega) (fun X4 f4 m4 => cK0_mk ?_)
      have sc4 : ScM X3 X4 Y2 Y2 := .cell (by decide) f4
      have h4 := h3.sc sc4
      have n4 : NV X4 (akJ s j) := fun x hx => ⟨m4 x hx, J.2.1 x⟩
      refine Q9_all h4 (cK1_mk (X9_canBe_s (M := akJ s j) n4 J.1 (full10 h.si) (fun y X5 f5 hy => cK1_mk ?_)))
      have sc5 : ScM X4 X5 Y2 Y2 := .cell (by decide) f5
      have h5 := h4.sc sc5
      have e5 : X5 0 0 = nI 0 := by rw [f5 0 (by omega), f4 0 (by omega), e3]; exact e2
      have sc25 := (sc2.trans sc3).trans (sc4.trans sc5)
      refine ⟨fun q => ?_, fun q => ?_⟩
      · have hn : ¬ cnB (akJ s j) (2 ^ sG s - 1) := fun z => by rw [hy.mpr z] at q; exact absurd q (by decide)
        have e0 : lyC (akJ s j) (sG s) = 0 := by unfold lyC; rw [cif_n hn]
        exact ak_step (w := 0) (A := fun z' f' => hX9_ask_55 Q r (nI (nO s)) (lN (lyC (Ms s) (sG s))) z' f' (nI (j + 1)) X5 Y2) hI (by omega) (by unfold akM; rw [e0]) bL (by omega) hf (fun z' f' hI' hf' => ih (j + 1) z' f' X5 Y2 (by omega) sc25 e5 h5 hI' hf')
      · have hc := hy.mp (z11 q)
        have c9 := ((can_iff (M := akJ s j) (G := sG s) J.2.2.1 J.2.2.2.1 g9).mp hc).1
        have em := mayN_eqG (M := akJ s j) (G := sG s) c9
        refine X9_moms_s (M := akJ s j) (G := sG s) h5.sv.1 (fun x hx => by rw [f5 7 (by omega)]; exact n4 x hx) g9 J.2.2.2.2 J.2.2.1 J.2.2.2.1 (fun X6 f6 g6 v1 v2 v3 v4 => cK0_mk ?_)
        have sc6 : ScM X5 X6 Y2 Y2 := .of (fun c hc => f6 c (fun e => by subst e; simp at hc) (fun e => by subst e; simp at hc) (fun e => by subst e; simp at hc)) (fun _ _ => Eq.refl _) (fun i hi => g6 i (fun e => by subst e; simp at hi) (fun e => by subst e; simp at hi) (fun e => by subst e; simp at hi) (fun e => by subst e; simp at hi))
        refine X9_count_s v1.2.1 c9 v2 v3 v4 (fun Y7 g7 w7 => cK2_mk ?_)
        have sc7 : ScM X6 X6 Y2 Y7 := .cellY (by decide) g7
        have el : wy (mN (akJ s j) (sG s)) (mayN (rwF (akJ s j) (sG s)) (sG s) [] none) 0 = lyC (akJ s j) (sG s) := by
          unfold lyC; rw [cif_y hc, em]
        rw [el]
        exact ak_step (w := lyC (akJ s j) (sG s)) (A := fun z' f' => hX9_ask_55 Q r (nI (nO s)) (lN (lyC (Ms s) (sG s))) z' f' (nI (j + 1)) X6 Y7) hI (by omega) rfl bL bJ hf (fun z' f' hI' hf' => ih (j + 1) z' f' X6 Y7 (by omega) ((sc25.trans sc6).trans sc7) (by rw [g6 0 (by omega) (by omega) (by omega) (by omega)]; exact e5) ((h5.sc sc6).sc sc7) hI' hf')
  have st := s0.trans sc1
  have e0 : X1 0 0 = nI 0 := by rw [e1, up2_same]
  have R : ∀ (c : Nat) (hc : c = nO s), tX9_ready [.ref 0] (LX9 ++ r) X1 Y (cK1 (LX9 ++ r) Q (fun x3 X3 Y3 => (x3 = 0 → hX9_ask_55 Q r (nI c) (lN 0) (-1) (lN 0) (nI 0) X3 Y3) ∧ (¬ (x3 = 0) → vp_in (nI 0) 512 ∧ (hX9_ask_55 Q r (nI c) (Y3 11 (nI 0).toNatClampNeg) (-1) (lN 0) (nI 0) X3 Y3)))) := by
    rintro c rfl
    refine Q9_ready h1 (fun hl X2 Y2 sc2 e2 h2 n2 m2 w2 => cK1_mk ?_) (fun hl X2 Y2 sc2 e2 h2 n2 => cK1_mk ?_)
    · have el : Y2 11 (nI 0).toNatClampNeg = lN (lyC (Ms s) (sG s)) := by
        have := w2 0 (Nat.two_pow_pos _)
        unfold lyC; rw [cif_y (P := cnB (Ms s) (2 ^ sG s - 1)) hl]; exact this
      rw [el]
      exact ⟨fun q => absurd q (by decide), fun _ => ⟨(m_in (by omega)).mpr (by omega), H _ 0 (-1) 0 X2 Y2 (Nat.zero_add _) (st.trans sc2) (by rw [e2]; exact e0) h2 (Or.inl ⟨rfl, rfl, rfl⟩) (by omega)⟩⟩
    · have el : lyC (Ms s) (sG s) = 0 := by unfold lyC; rw [cif_n (P := cnB (Ms s) (2 ^ sG s - 1)) hl]
      have H0 := H _ 0 (-1) 0 X2 Y2 (Nat.zero_add _) (st.trans sc2) (by rw [e2]; exact e0) h2 (Or.inl ⟨rfl, rfl, rfl⟩) (by omega)
      rw [el] at H0
      exact ⟨fun _ => H0, fun q => absurd rfl q⟩
  rw [o1, m_le (by omega) (by omega)]
  exact ⟨fun q => R 8 (by unfold nO; omega), fun q => R _ (by unfold nO; omega)⟩
end Ask9
