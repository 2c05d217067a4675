/-! list and listed, by the class -/
/-- all but the TAPE, and what is known of the LIST, stays -/
def KpL (X X' : HX) (Y Y' : HY) : Prop := (∀ c, c < 79 → c ≠ 1 → c ≠ 9 → X' c = X c) ∧ (∀ i, i ∉ [10, 11, 12, 13, 14] → X' 9 i = X 9 i) ∧ (∀ i, i ≠ 1 → X' 1 i = X 1 i) ∧ (∀ c, c < 79 → Y' c = Y c) ∧ X' 79 2 = nI 60 ∧ X' 1 1 = nI 0
theorem lsS_b {l : Ls} {v : Nat} : lsS l v ↔ v < l.1 := bs_full
section Ltd8
variable {CK S1 S2 : HX → St → Prop} {X X' : HX} {Y Y' : HY} {s : St} {Q : Qt}
theorem Qw.list (h : Qw CK S1 S2 X Y s) (e : KpL X X' Y Y') : Qw CK S1 S2 X' Y' s := by
  obtain ⟨e1, e2, e3, e4, e5, e6⟩ := e
  obtain ⟨b1, b2, b3, b4⟩ := h.bv
  refine h.up10 ⟨by rw [e2 0 (by decide)]; exact b1, by rw [e2 1 (by decide)]; exact b2, fun k hk => ?_, fun i hi => ?_⟩ (e4 9 (by omega)) (fun c hc hd _ => ⟨e1 c (by omega) (by omega) (by omega), e4 c (by omega)⟩)
  · rw [e1 (9 + 1) (by omega) (by omega) (by omega), e1 (9 + 2) (by omega) (by omega) (by omega), e1 (9 + 3) (by omega) (by omega) (by omega), e1 (9 + 4) (by omega) (by omega) (by omega), e1 (9 + 5) (by omega) (by omega) (by omega)]
    exact b3 k hk
  · rw [e1 (9 + 6) (by omega) (by omega) (by omega), e1 (9 + 7) (by omega) (by omega) (by omega)]
    exact b4 i hi
theorem lsB_s {t : Tp} {p : Int32} (ht : TV8 X t) (h60 : X 79 2 = nI 60) (k1 : okL t p → ∀ X' Y', KpL X X' Y Y' → LF 9 X' (lsT2 t p) → Q (rI (nI (lsPr (lsT2 t p)))) (LX8 true) X' Y') (k2 : ¬ okL t p → ∀ X' Y', KpL X X' Y Y' → X' 9 = X 9 → Q (.inr XA) (LX8 true) X' Y') : lsB Q p X Y := by
  have ln : (LX8 true).length = 83 := by decide
  unfold lsB
  refine X8_readList_s ht h60 (fun X1 Y1 z f g hz hr => cK1_mk ⟨fun q => ?_, fun q => ?_⟩)
  · have ok := hz.mp (z11 q)
    have rows := hr (z11 q)
    obtain ⟨n, n1, n60, rfl⟩ := okL_c (t := t) ⟨ok.1, ok.2.1⟩
    have cn : (nI n).toNatClampNeg = n := m_clamp (by omega)
    have hl : lsI (lsT2 t (nI n)) := by
      have := lsN_ok (t := t) (n := 0) (G := n) n60 (k := t.1 / 2) (fun i hi => by have := ok.2.2.2 i (by omega); rw [cn] at this; exact this)
      unfold lsT2
      rw [cn]; exact this
    have l1 : (lsT2 t (nI n)).1 = n := cn
    have k1' := k1 ok
    revert rows hl l1 k1'
    generalize lsT2 t (nI n) = l
    intro rows hl l1 k1'
    obtain ⟨l60, lG, lB, lM⟩ := hl
    have T0 := Nat.two_pow_pos n
    have T60 : 2 ^ n ≤ 2 ^ 60 := Nat.pow_le_pow_right (by omega) n60
    have T60' : (2 : Nat) ^ 60 = 1152921504606846976 := by decide
    have eS : ((lN 1) <<< ((nI n).toInt64 &&& 63)) - (lN 1) = lN (2 ^ n - 1) := by simp (disch := omega) only [m_0, m_L0, m_lt, m_le, m_eq, m_neg, m_in, m_clamp, m_add, m_sub, m_pred, m_mul, m_l, m_i, m_Land, m_Lor, m_and, m_or, m_xor, m_Landn, m_andn, m_LshlP, m_shl, m_LbitP, m_bit, m_cmp0P, m_Lb0, m_Lb1, m_b0, m_b1, Nat.one_mul, m_Lsub]
    have hSw : ∀ v, Bs (2 ^ n - 1) v → v < 60 := fun v hv => by have := bs_full.mp hv; omega
    have vm : ∀ Z W, Z 79 2 = nI 60 → (∀ i, i < 60 → W 80 i = lN (l.2 i)) → VM 60 (sb [79, 80, 81, 82] Z) (sb [79, 80, 81, 82] W) l.2 := fun Z W hz hw => ⟨Nat.le_refl _, hz, fun i hi => ⟨hw i hi, lM i⟩⟩
    have lS : lsS l = Bs (2 ^ n - 1) := by unfold lsS; rw [l1]
    rw [eS]
    -- the end
    have fin : ∀ Z W, (∀ c, c < 79 → c ≠ 1 → c ≠ 9 → Z c = X c) → (∀ i, i ∉ [10, 11, 12] → Z 9 i = X 9 i) → (∀ i, i ≠ 1 → Z 1 i = X 1 i) → (∀ c, c < 79 → W c = Y c) → Z 79 2 = nI 60 → Z 1 1 = nI 0 → (∀ i, i < 60 → W 80 i = lN (l.2 i)) → Z 9 10 = iB (lsC l ∧ lsA l) → Z 9 11 = iB (lsC l) → Z 9 12 = cif (lsC l) (nI (lsG l)) (-1) → tX4_pairsMet [.ref 0] (LX4 60 ++ []) (sb [79, 80, 81, 82] Z) (sb [79, 80, 81, 82] W) (cS1 (LX4 60 ++ []) (LX8 true) [79, 80, 81, 82] (LX8 true).length Z W Q (fun x7 X7 Y7 => Q (.inl (some (.int ((up2 (up2 X7 9 13 x7) 9 14 (nI n)) 9 13)))) (LX8 true) (up2 (up2 X7 9 13 x7) 9 14 (nI n)) Y7)) := by
      intro Z W z1 z2 z3 z4 z5 z6 z7 z8 z9 z10
      refine X4_pairs_s (M := l.2) z5 (fun i hi => ⟨z7 i hi, lM i⟩) (cS1_mk ?_)
      have e := Eq8.mg (b := true) (X := Z) (Y := W) [79, 80, 81, 82]
      have n83 := nC83
      revert e
      generalize mg [79, 80, 81, 82] (LX8 true).length Z (sb [79, 80, 81, 82] Z) = Z2
      generalize mg [79, 80, 81, 82] (LX8 true).length W (sb [79, 80, 81, 82] W) = W2
      intro e
      have ez : ∀ c, c < 83 → Z2 c = Z c := fun c hc => (e c (by omega)).1
      have kk := k1' (up2 (up2 Z2 9 13 (nI (enD l.2 / 2))) 9 14 (nI n)) W2 ⟨fun c c1 c2 c3 => by rw [up2_row c3, up2_row c3, ez c (by omega)]; exact z1 c c1 c2 c3, fun i hi => ?_, fun i hi => by rw [up2_row (by omega), up2_row (by omega), ez 1 (by omega)]; exact z3 i hi, fun c hc => ((e c (by omega)).2).trans (z4 c hc), by rw [up2_row (by omega), up2_row (by omega), ez 79 (by omega)]; exact z5, by rw [up2_row (by omega), up2_row (by omega), ez 1 (by omega)]; exact z6⟩ ⟨by rw [up2_idx (by omega), up2_idx (by omega), ez 9 (by omega)]; exact z8, by rw [up2_idx (by omega), up2_idx (by omega), ez 9 (by omega)]; exact z9, by rw [up2_idx (by omega), up2_idx (by omega), ez 9 (by omega)]; exact z10, by rw [up2_idx (by omega), up2_same]; rfl, by rw [up2_same, l1]⟩
      · rw [up2_idx (by omega), up2_same]; exact kk
      · simp only [List.mem_cons, List.not_mem_nil, or_false, not_or] at hi
        rw [up2_idx hi.2.2.2.2, up2_idx hi.2.2.2.1, ez 9 (by omega)]
        exact z2 i (by simp; omega)
    have z79 : up2 X1 1 1 (nI 0) 79 2 = nI 60 := by rw [up2_row (by omega), f 79 (by omega)]; exact h60
    refine X4_isRingless_s (w := 60) (M := l.2) (S := 2 ^ n - 1) (vm _ _ z79 rows) lG (by omega) hSw (fun c X3 f3 g3 hc hm => cS1_mk ?_)
    have fa : ∀ c, c < 83 → c ≠ 79 → c ≠ 81 → mg [79, 80, 81, 82] (LX8 true).length (up2 X1 1 1 (nI 0)) X3 c = up2 X1 1 1 (nI 0) c := fun c hc hd he => mg_fr (ch := [0, 2]) (fun i _ hi => f3 i (fun e => hi (by simp [e])) (fun e => hi (by simp [e]))) (by omega) (by simp; omega)
    have ya : ∀ c, c < 83 → mg [79, 80, 81, 82] (LX8 true).length Y1 (sb [79, 80, 81, 82] Y1) c = Y1 c := fun c hc => mg_sb (by omega)
    have a79 : mg [79, 80, 81, 82] (LX8 true).length (up2 X1 1 1 (nI 0)) X3 79 = X3 0 := mg_in 0 (by omega) rfl rfl
    have g79 : ∀ i, i ≠ 1 → X3 0 i = up2 X1 1 1 (nI 0) 79 i := g3
    revert fa ya a79
    generalize mg [79, 80, 81, 82] (LX8 true).length (up2 X1 1 1 (nI 0)) X3 = X4
    generalize mg [79, 80, 81, 82] (LX8 true).length Y1 (sb [79, 80, 81, 82] Y1) = Y4
    intro fa ya a79
    have s1 : ∀ c, c < 79 → c ≠ 1 → X4 c = X c := fun c hc hd => by rw [fa c (by omega) (by omega) (by omega), up2_row hd]; exact f c (by omega)
    have s2 : ∀ i, i ≠ 1 → X4 1 i = X 1 i := fun i hi => by rw [fa 1 (by omega) (by omega) (by omega), up2_idx hi, f 1 (by omega)]
    have s3 : X4 1 1 = nI 0 := by rw [fa 1 (by omega) (by omega) (by omega)]; exact up2_same
    have s4 : ∀ c, c < 79 → Y4 c = Y c := fun c hc => (ya c (by omega)).trans (g c (by omega) (by omega))
    have s5 : X4 79 2 = nI 60 := by rw [a79, g79 2 (by omega)]; exact z79
    have s6 : ∀ i, i < 60 → Y4 80 i = lN (l.2 i) := fun i hi => by rw [ya 80 (by omega)]; exact rows i hi
    rw [← lS] at hc hm
    have b0 : c = false → ¬ lsC l := fun e y => by have := hc.mpr y; rw [e] at this; cases this
    cases c with
    | false =>
      have nc := b0 rfl
      refine ⟨fun _ => ⟨fun _ => ⟨fun _ => ?_, fun y => absurd rfl y⟩, fun y => absurd rfl y⟩, fun y => absurd rfl y⟩
      refine fin _ Y4 (fun c c1 c2 c3 => by rw [up2_row c3, up2_row c3, up2_row c3]; exact s1 c c1 c2) (fun i hi => ?_) (fun i hi => by rw [up2_row (by omega), up2_row (by omega), up2_row (by omega)]; exact s2 i hi) s4 (by rw [up2_row (by omega), up2_row (by omega), up2_row (by omega)]; exact s5) (by rw [up2_row (by omega), up2_row (by omega), up2_row (by omega)]; exact s3) s6 (by rw [up2_same, iB_n (fun y => nc y.1)]) (by rw [up2_idx (by omega), up2_idx (by omega), up2_same, iB_n nc]) (by rw [up2_idx (by omega), up2_same, cif_n nc])
      simp only [List.mem_cons, List.not_mem_nil, or_false, not_or] at hi
      rw [up2_idx hi.1, up2_idx hi.2.2, up2_idx hi.2.1, s1 9 (by omega) (by omega)]
    | true =>
      have yc : lsC l := hc.mp rfl
      obtain ⟨gr, gr1, gr2⟩ := hm rfl
      have eg := lsG_eq gr2
      have g9 : up2 X4 9 11 (nI 1) 79 1 = nI gr := by rw [up2_row (by omega), a79]; exact gr1
      refine ⟨fun y => absurd y (by decide), fun _ => ⟨fun y => absurd y (by decide), fun _ => ⟨fun y => absurd y (by decide), fun _ => ?_⟩⟩⟩
      rw [g9]
      obtain ⟨X5, hX5⟩ : ∃ X5, X5 = up2 (up2 X4 9 11 (nI 1)) 9 12 (nI gr) := ⟨_, rfl⟩
      rw [← hX5]
      have w1 : ∀ c, c ≠ 9 → X5 c = X4 c := fun c hc => by rw [hX5, up2_row hc, up2_row hc]
      have w2 : ∀ i, i ≠ 11 → i ≠ 12 → X5 9 i = X 9 i := fun i h1 h2 => by rw [hX5, up2_idx h2, up2_idx h1, s1 9 (by omega) (by omega)]
      have w11 : X5 9 11 = nI 1 := by rw [hX5, up2_idx (by omega), up2_same]
      have w12 : X5 9 12 = nI gr := by rw [hX5, up2_same]
      refine X4_findThree_s (w := 60) (M := l.2) (S := 2 ^ n - 1) (vm _ _ (by rw [w1 79 (by omega)]; exact s5) s6) lG (by omega) hSw (fun z3 Y6 f6 h3 => cS1_mk ?_)
      have fb : ∀ c, c < 83 → mg [79, 80, 81, 82] (LX8 true).length X5 (sb [79, 80, 81, 82] X5) c = X5 c := fun c hc => mg_sb (by omega)
      have yb : ∀ c, c < 83 → c ≠ 82 → mg [79, 80, 81, 82] (LX8 true).length Y4 Y6 c = Y4 c := fun c hc hd => mg_fr (ch := [3]) (fun i _ hi => f6 i (fun e => hi (by simp [e]))) (by omega) (by simpa using hd)
      revert fb yb
      generalize mg [79, 80, 81, 82] (LX8 true).length X5 (sb [79, 80, 81, 82] X5) = X7
      generalize mg [79, 80, 81, 82] (LX8 true).length Y4 Y6 = Y7
      intro fb yb
      have ta := th3_at lG (S := 2 ^ n - 1)
      have done : ∀ v, v = iB (lsC l ∧ lsA l) → tX4_pairsMet [.ref 0] (LX4 60 ++ []) (sb [79, 80, 81, 82] (up2 X7 9 10 v)) (sb [79, 80, 81, 82] Y7) (cS1 (LX4 60 ++ []) (LX8 true) [79, 80, 81, 82] (LX8 true).length (up2 X7 9 10 v) Y7 Q (fun x7 X7 Y7 => Q (.inl (some (.int ((up2 (up2 X7 9 13 x7) 9 14 (nI n)) 9 13)))) (LX8 true) (up2 (up2 X7 9 13 x7) 9 14 (nI n)) Y7)) := fun v hv => by
        refine fin _ Y7 (fun c c1 c2 c3 => by rw [up2_row c3, fb c (by omega), w1 c c3]; exact s1 c c1 c2) (fun i hi => ?_) (fun i hi => by rw [up2_row (by omega), fb 1 (by omega), w1 1 (by omega)]; exact s2 i hi) (fun c hc => (yb c (by omega) (by omega)).trans (s4 c hc)) (by rw [up2_row (by omega), fb 79 (by omega), w1 79 (by omega)]; exact s5) (by rw [up2_row (by omega), fb 1 (by omega), w1 1 (by omega)]; exact s3) (fun i hi => by rw [yb 80 (by omega) (by omega)]; exact s6 i hi) (by rw [up2_same]; exact hv) (by rw [up2_idx (by omega), fb 9 (by omega), w11, iB_y yc]) (by rw [up2_idx (by omega), fb 9 (by omega), w12, cif_y yc, eg])
        simp only [List.mem_cons, List.not_mem_nil, or_false, not_or] at hi
        rw [up2_idx hi.1, fb 9 (by omega)]
        exact w2 i hi.2.1 hi.2.2
      refine ⟨fun y => done _ ?_, fun y => done _ ?_⟩
      · rw [iB_n (fun w => ?_)]
        rcases h3 with ⟨rfl, -⟩ | ⟨a, b, c, rfl, h1, h2, h3, h4, -⟩
        · exact absurd rfl y
        · have w2 : gAT (Eo l.2) (Bs (2 ^ n - 1)) := by rw [← lS]; exact w.2
          exact absurd h4 (ta.mpr w2 a b c h4.2.1.1.1 h4.1.1.1 h1 h2)
      · have ha : lsA l := by
          rcases h3 with ⟨rfl, hn⟩ | ⟨a, b, c, rfl, h1, h2, h3, h4, -⟩
          · show gAT (Eo l.2) (lsS l)
            rw [lS]; exact ta.mp hn
          · have := Classical.not_not.mp y
            rw [m_zI, m_neg (by omega)] at this; exact this.elim
        rw [iB_y ⟨yc, ha⟩]
  · have hn : ¬ okL t p := fun y => q (by rw [hz.mpr y]; decide)
    refine k2 hn _ Y1 ⟨fun c c1 c2 c3 => by rw [up2_row c2]; exact f c (by omega), fun i _ => by rw [up2_row (by omega), f 9 (by omega)], fun i hi => by rw [up2_idx hi, f 1 (by omega)], fun c hc => g c (by omega) (by omega), by rw [up2_row (by omega), f 79 (by omega)]; exact h60, up2_same⟩ (by rw [up2_row (by omega)]; exact f 9 (by omega))
theorem X8_listT_s {t : Tp} {p : Int32} (ht : TV8 X t) (h60 : X 79 2 = nI 60) (k1 : okL t p → ∀ X' Y', KpL X X' Y Y' → LF 9 X' (lsT2 t p) → Q (rI (nI (lsPr (lsT2 t p)))) (LX8 true) X' Y') (k2 : ¬ okL t p → ∀ X' Y', KpL X X' Y Y' → X' 9 = X 9 → Q (.inr XA) (LX8 true) X' Y') : tX8_list_T [.ref 0, .int p] (LX8 true) X Y Q := tX8_list_T_i (lsB_s ht h60 k1 k2)
theorem wd6 : Wd6 = LX8 true := rfl
theorem X8_listF_s {t : Tp} {p : Int32} (ht : TV8 X t) (k1 : okL t p → ∀ X' Y', KpL X X' Y Y' → LF 9 X' (lsT2 t p) → Q (rI (nI (lsPr (lsT2 t p)))) (LX8 true) X' Y') (k2 : ¬ okL t p → ∀ X' Y', KpL X X' Y Y' → X' 9 = X 9 → Q (.inr XA) (LX8 true) X' Y') : tX8_list_F [.ref 0, .int p] (LX8 false) X Y Q := by
  apply tX8_list_F_i
  apply tX4_init_60_i
  refine cS0_mk ?_
  have w2 : Wd2.length = 80 := by decide
  obtain ⟨Xi, hXi⟩ : ∃ Xi, Xi = upR (upR (upR (up2 (up2 (sb [79] (upR X 79)) 0 1 (nI 0)) 0 2 (nI 60)) 1) 2) 3 := ⟨_, rfl⟩
  have i2 : Xi 0 2 = nI 60 := by rw [hXi]; rfl
  rw [← hXi]
  have fa : ∀ c, c < 79 → mg [79] Wd2.length (upR X 79) Xi c = X c := fun c hc => by
    rw [mg_out (by omega) (by simp; omega)]
    unfold upR
    rw [if_neg (by omega)]
  have a79 : mg [79] Wd2.length (upR X 79) Xi 79 = Xi 0 := mg_in 0 (by omega) rfl rfl
  have ya : ∀ c, c < 79 → mg [79] Wd2.length (upR Y 79) (upR (upR (upR (sb [79] (upR Y 79)) 1) 2) 3) c = Y c := fun c hc => by
    rw [mg_out (by omega) (by simp; omega)]
    unfold upR
    rw [if_neg (by omega)]
  revert fa a79 ya
  generalize mg [79] Wd2.length (upR X 79) Xi = X1
  generalize mg [79] Wd2.length (upR Y 79) (upR (upR (upR (sb [79] (upR Y 79)) 1) 2) 3) = Y1
  intro fa a79 ya
  have kl : ∀ X' Y', KpL X1 X' Y1 Y' → KpL X X' Y Y' := fun X' Y' q => ⟨fun c c1 c2 c3 => (q.1 c c1 c2 c3).trans (fa c c1), fun i hi => (q.2.1 i hi).trans (by rw [fa 9 (by omega)]), fun i hi => (q.2.2.1 i hi).trans (by rw [fa 1 (by omega)]), fun c hc => (q.2.2.2.1 c hc).trans (ya c hc), q.2.2.2.2⟩
  exact lsB_s (ht.eq (by rw [fa 1 (by omega)]) (fa 2 (by omega))) (by rw [a79]; exact i2) (fun ok X' Y' q lf => k1 ok X' Y' (kl X' Y' q) lf) (fun ok X' Y' q e9 => k2 ok X' Y' (kl X' Y' q) (e9.trans (fa 9 (by omega))))
theorem X8_listed_s {b : Bool} {l : Ls} {q : Int32} (h : LF 9 X l) (k : Q (aListed l q) (LX8 b) X Y) : tX8_listed b [.ref 0, .int q] (LX8 b) X Y Q := by
  obtain ⟨h1, h2, h3, h4, h5⟩ := h
  apply tX8_listed_i
  unfold aListed at k
  by_cases hq : ¬ q < 0 ∧ q ≤ nI 4
  · obtain ⟨w, hw, rfl⟩ : ∃ w, w < 5 ∧ q = nI w := by
      rcases i32c q with y' | ⟨w, hw, rfl⟩
      · exact absurd y' hq.1
      · have := hq.2; rw [m_le hw (by omega)] at this; exact ⟨w, by omega, rfl⟩
    rw [cif_y hq] at k
    have tq : (nI w).toInt = w := nI_toInt (by omega)
    rw [tq]
    obtain rfl | rfl | rfl | rfl | rfl : w = 0 ∨ w = 1 ∨ w = 2 ∨ w = 3 ∨ w = 4 := by omega
    · refine ⟨fun y => by omega, fun _ => ?_, fun y => by omega, fun y => by omega, fun y => by omega, fun y => by omega, trivial⟩
      rw [h1]; exact k
    · refine ⟨fun y => by omega, fun y => by omega, fun _ => ?_, fun y => by omega, fun y => by omega, fun y => by omega, trivial⟩
      rw [h2]; exact k
    · refine ⟨fun y => by omega, fun y => by omega, fun y => by omega, fun _ => ?_, fun y => by omega, fun y => by omega, trivial⟩
      rw [h3]; exact k
    · refine ⟨fun y => by omega, fun y => by omega, fun y => by omega, fun y => by omega, fun _ => ?_, fun y => by omega, trivial⟩
      rw [h4]; exact k
    · refine ⟨fun y => by omega, fun y => by omega, fun y => by omega, fun y => by omega, fun y => by omega, fun _ => ?_, trivial⟩
      rw [h5]; exact k
  · have hn : q.toInt < 0 ∨ 4 < q.toInt := by
      rcases i32c q with y' | ⟨w, hw, rfl⟩
      · left
        rw [Int32.lt_iff_toInt_lt] at y'
        have : (0 : Int32).toInt = 0 := rfl
        omega
      · right
        rw [nI_toInt hw]
        refine Classical.byContradiction fun y => hq ⟨nI_nn hw, by rw [m_le hw (by omega)]; omega⟩
    rw [cif_n hq] at k
    exact ⟨fun _ => k, fun y => by omega, fun y => by omega, fun y => by omega, fun y => by omega, fun y => by omega, trivial⟩
end Ltd8
