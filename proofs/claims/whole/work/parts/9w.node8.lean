/-! the chart by the class: node, and how many -/
section Dr8
variable {Q : Qt} {X : HX} {Y : HY} {m : Nat} {mo P o : Nat → Nat}
theorem chE_uq {C : Nat → Nat → Prop} {T T' : Nat} (h : chE m C o T) (h' : chE m C o T') : T = T' := by
  rcases Nat.lt_trichotomy T T' with q | q | q
  · exact absurd h.1 (h'.2 T q)
  · exact q
  · exact absurd h'.1 (h.2 T' q)
theorem X1_draw_s (hC : CV (sb S11 X) m mo P) (hOL : ldP m mo P → LyN m (mayG mo m P) m o ∧ ∀ p, p < m → X 13 p = nI (o p)) (k : ∀ X' Y', (∀ x, 11 ≤ x → x < 19 → X' x = X x) → (∀ c, c < 19 → Y' c = Y c) → X' 0 6 = X 0 6 → ((¬ ldP m mo P ∨ m = 0) → X' 0 5 = nI 0) → (ldP m mo P → 0 < m → ∃ T, T ≤ 17 ∧ chE m (cmI m (mayG mo m P) o) o T ∧ NcV X' m (cmI m (mayG mo m P) o) o T ∧ ∀ j, j < T → stI (cmI m (mayG mo m P) o) (ndE m (cmI m (mayG mo m P) o) o j).1 (ndE m (cmI m (mayG mo m P) o) o j).2.1) → Q (.inl none) (LX1_3 ++ []) X' Y') : tX1_draw [.ref 0, .ref 11] (LX1_3 ++ []) X Y Q := by
  have v27 := hC.1.1
  have e3 : X 11 3 = nI m := hC.1.2.1
  apply tX1_draw_i
  have z0 : ∀ x, x ≠ 0 → up2 X 0 5 (nI 0) x = X x := fun x h => up2_row h
  have cz : CV (sb S11 (up2 X 0 5 (nI 0))) m mo P := CV_c hC (by show up2 X 0 5 (nI 0) 11 3 = X 11 3; rw [z0 11 (by omega)]) (z0 12 (by omega)) (z0 15 (by omega)) (z0 16 (by omega)) (z0 18 (by omega))
  refine X3_isLaid_s (r := []) cz (fun z hz => cS1_mk ?_)
  have fa : ∀ c, c < 19 → mg S11 (LX1_3 ++ []).length (up2 X 0 5 (nI 0)) (sb S11 (up2 X 0 5 (nI 0))) c = up2 X 0 5 (nI 0) c := fun c hc => mg_sb hc
  have ga : ∀ c, c < 19 → mg S11 (LX1_3 ++ []).length Y (sb S11 Y) c = Y c := fun c hc => mg_sb hc
  revert fa ga
  generalize mg S11 (LX1_3 ++ []).length (up2 X 0 5 (nI 0)) (sb S11 (up2 X 0 5 (nI 0))) = X1
  generalize mg S11 (LX1_3 ++ []).length Y (sb S11 Y) = Y1
  intro fa ga
  have f1 : ∀ x, 11 ≤ x → x < 19 → X1 x = X x := fun x h1 h2 => (fa x h2).trans (z0 x (by omega))
  have s0 : X1 0 5 = nI 0 := by rw [fa 0 (by omega)]; exact up2_same
  have s6 : X1 0 6 = X 0 6 := by rw [fa 0 (by omega)]; exact up2_idx (by omega)
  refine ⟨fun q => ?_, fun q => ?_⟩
  · have hn : ¬ ldP m mo P := fun y => by rw [hz.mpr y] at q; exact absurd q (by decide)
    exact k X1 Y1 f1 ga s6 (fun _ => s0) (fun y => absurd y hn)
  have hl := hz.mp (z11 q)
  have m9 := hl.1
  obtain ⟨hO, hL⟩ := hOL hl
  rw [f1 11 (by omega) (by omega), e3]
  refine ⟨fun q0 => ?_, fun q0 => ?_⟩
  · have m0 : 0 < m := Nat.pos_of_ne_zero (fun e => q0 (by rw [e]; rfl))
    have hCm : ∀ a b, cmI m (mayG mo m P) o a b → a ≤ b ∧ b < m := fun a b h => ⟨h.1, h.2.1⟩
    have c1 : CV (sb S11 X1) m mo P := CV_c hC (by show X1 11 3 = X 11 3; rw [f1 11 (by omega) (by omega)]) (f1 12 (by omega) (by omega)) (f1 15 (by omega) (by omega)) (f1 16 (by omega) (by omega)) (f1 18 (by omega) (by omega))
    refine X1_common_s c1 hl hO (fun p hp => by rw [f1 13 (by omega) (by omega)]; exact hL p hp) (fun X4 Y4 f4 g4 t6 => cK0_mk ?_)
    rw [f4 11 (by omega) (by omega), f1 11 (by omega) (by omega), e3]
    refine X1_strong_s (r := _) m9 t6 hCm (fun X5 f5 t7 => cK0_mk ?_)
    have f15 : ∀ x, 11 ≤ x → x < 19 → X5 x = X x := fun x h1 h2 => by rw [f5 x (by omega), f4 x h2 (by omega)]; exact f1 x h1 h2
    have v17 : vp_in (nI 0) 17 := (m_in (by omega)).mpr (by omega)
    have c0 : (nI 0).toNatClampNeg = 0 := m_clamp (by omega)
    refine ⟨v17, v17, v17, ?_⟩
    rw [c0, up2_out (X := X5) (show (11 : Nat) ≠ 2 by omega), f15 11 (by omega) (by omega), e3, m_sub (by omega)]
    obtain ⟨X6, hX6⟩ : ∃ X6, X6 = up2 (up2 (up2 (up2 X5 2 0 (nI 0)) 3 0 (nI (m - 1))) 4 0 (-1)) 0 5 (nI 1) := ⟨_, rfl⟩
    have f6 : ∀ x, x ≠ 0 → x ≠ 2 → x ≠ 3 → x ≠ 4 → X6 x = X5 x := fun x h0 h2 h3 h4 => by rw [hX6, up2_row h0, up2_row h4, up2_row h3, up2_row h2]
    have s66 : X6 0 6 = X 0 6 := by rw [hX6, up2_idx (by omega), up2_row (by omega), up2_row (by omega), up2_row (by omega), f5 0 (by omega), f4 0 (by omega) (by omega)]; exact s6
    rw [← hX6]
    refine X1_loop_s m9 hO (fun p hp => by rw [f6 13 (by omega) (by omega) (by omega) (by omega), f15 13 (by omega) (by omega)]; exact hL p hp) ((t6.of (f5 6 (by omega))).of (f6 6 (by omega) (by omega) (by omega) (by omega))) (t7.of (f6 7 (by omega) (by omega) (by omega) (by omega))) hCm (fun a ha => cm_one hO ha) m0 ⟨cm_all hO m0, fun c d hcd => by have := hCm _ _ hcd; omega⟩ (fun X' T f' e6 T17 ch nv st => k X' Y4 (fun x h1 h2 => by rw [f' x h1, f6 x (by omega) (by omega) (by omega) (by omega)]; exact f15 x h1 h2) (fun c hc => (g4 c hc).trans (ga c hc)) (e6.trans s66) (fun y => y.elim (fun y => absurd hl y) (fun y => by omega)) (fun _ _ => ⟨T, T17, ch, nv, st⟩)) ⟨?_, fun x hx => by omega, fun y e he => ?_⟩
    · rw [hX6, up2_same]; rfl
    · have y0 : y = 0 := by
        have := (List.getElem?_eq_some_iff.mp he).1
        have : y < 1 := this
        omega
      subst y0
      have he : ((0, m - 1, -1) : Nde) = e := Option.some.inj he
      rw [← he, hX6]
      refine ⟨?_, ?_, ?_⟩
      · rw [up2_row (by omega), up2_row (by omega), up2_row (by omega)]; exact up2_same
      · rw [up2_row (by omega), up2_row (by omega)]; exact up2_same
      · rw [up2_row (by omega)]; exact up2_same
  · have m0 : m = 0 := (m_eq (a := m) (b := 0) (by omega) (by omega)).mp (Classical.not_not.mp q0)
    exact k X1 Y1 f1 ga s6 (fun _ => s0) (fun _ y => by omega)
end Dr8
/-! of a state -/
noncomputable def chC (s : St) : Nat → Nat → Prop := cmI (sm s) (mayQ s) (leQ s)
noncomputable def nE (s : St) (x : Nat) : Nde := ndE (sm s) (chC s) (leQ s) x
noncomputable def chZ (s : St) : Nat := cif (layQ s ∧ 0 < sm s) (Classical.epsilon (chE (sm s) (chC s) (leQ s))) 0
noncomputable def nKd (s : St) (x : Nat) : Nat := kdN (chC s) (nE s x).1 (nE s x).2.1
noncomputable def nPt (s : St) (x : Nat) : Nat := pN (sm s) (chC s) (leQ s) (nE s x).1 (nE s x).2.1
noncomputable def nIv (s : St) (x : Nat) : Nat := ivS (sm s) (leQ s) (nE s x).1 (nE s x).2.1
def CK8 (X : HX) (s : St) : Prop := X 65 5 = nI (chZ s) ∧ chZ s ≤ 17 ∧ ∀ x, x < chZ s → stI (chC s) (nE s x).1 (nE s x).2.1 ∧ X 67 x = nI (nE s x).1 ∧ X 68 x = nI (nE s x).2.1 ∧ X 69 x = zI (nE s x).2.2 ∧ X 66 x = nI (nKd s x) ∧ X 70 x = nI (nPt s x)
theorem CK8_in : InC 65 75 CK8 := fun X X' s e h => by
  unfold CK8 at h ⊢
  rw [e 65 (by omega) (by omega), e 66 (by omega) (by omega), e 67 (by omega) (by omega), e 68 (by omega) (by omega), e 69 (by omega) (by omega), e 70 (by omega) (by omega)]
  exact h
theorem chZ_y {s : St} {T : Nat} (h1 : layQ s) (h2 : 0 < sm s) (h : chE (sm s) (chC s) (leQ s) T) : chZ s = T := by
  unfold chZ
  rw [cif_y ⟨h1, h2⟩]
  exact eps_uq h (fun _ hy => chE_uq hy h)
noncomputable def ndA (s : St) (x : Nat) (q : Int32) : Int32 := if q = 0 then nI (nKd s x) else if q = nI 1 then nI (nIv s x) else if q = nI 2 then zI (nE s x).2.2 else nI (nPt s x)
noncomputable def aNode (s : St) (p q : Int32) : Rs := cif (layQ s) (cif (¬ q < 0 ∧ q ≤ nI 3) (rI (cif (¬ p < 0 ∧ p.toNatClampNeg < chZ s) (ndA s p.toNatClampNeg q) (-1))) (.inr XN)) (.inr XS)
section Nod8
variable {S1 S2 : HX → St → Prop} {X X' : HX} {Y Y' : HY} {s : St} {b : Bool} {Q : Qt}
theorem Qw.c65 (h : Qw CK8 S1 S2 X Y s) (ex : ∀ c, c < 79 → (c < 65 ∨ 75 < c) → X' c = X c) (ey : ∀ c, c < 79 → Y' c = Y c) (f : Fl X' 65 6 (X' 41 4 = nI 1 ∧ CK8 X' s)) : Qw CK8 S1 S2 X' Y' s := by
  obtain ⟨⟨hC, h1, h2⟩, q1, q2, q3, q4, q5, q6, q7, q8, q9, q10, q11⟩ := h
  have xx : ∀ c i, c < 79 → (c < 65 ∨ 75 < c) → X' c i = X c i := fun c i hc hd => by rw [ex c hc hd]
  refine ⟨⟨hC, h1, h2⟩, q1, q2.of (fun c z1 z2 => ex c (by omega) (by omega)), by rw [ey 9 (by omega)]; exact q3, ⟨by rw [xx 33 2 (by omega) (by omega)]; exact q4.1, by rw [xx 37 2 (by omega) (by omega)]; exact q4.2⟩, ?_, ?_, ?_, ?_, f, ?_, ?_⟩
  · intro k hk
    have : sb S41 X' 4 = sb S41 X 4 := ex 45 (by omega) (by omega)
    rw [this]; exact q5 k hk
  · exact q6.mono (xx _ _ (by omega) (by omega)) (fun z => z.of (xx _ _ (by omega) (by omega)) (ex _ (by omega) (by omega)) (ex _ (by omega) (by omega)) (ex _ (by omega) (by omega)) (ey _ (by omega)))
  · exact q7.mono (xx _ _ (by omega) (by omega)) (fun z => ⟨by rw [xx 25 3 (by omega) (by omega)]; exact z.1, z.2.of (xx _ _ (by omega) (by omega)) (fun c z1 z2 => ex c (by omega) (by omega))⟩)
  · exact q8.mono (xx _ _ (by omega) (by omega)) (fun z => ⟨by rw [xx 41 4 (by omega) (by omega)]; exact z.1, z.2.of (xx _ _ (by omega) (by omega)) (fun c z1 z2 => ex c (by omega) (by omega))⟩)
  · exact q10.mono (xx _ _ (by omega) (by omega)) (fun z => h1 X X' s (fun c z1 z2 => ex c (by omega) (by omega)) z)
  · exact q11.mono (xx _ _ (by omega) (by omega)) (fun z => h2 X X' s (fun c z1 z2 => ex c (by omega) (by omega)) z)
theorem LKo.least (h : LKo X s) (si : SI s) (hl : layQ s) : ∀ p, p < sm s → X 43 p = nI (leQ s p) := fun p hp => by
  obtain ⟨le, l1, l2⟩ := h.2 ((lay_ld si).mpr hl)
  rw [may_eq si] at l1
  have := l2 p hp
  rw [leQ_eq si hl l1 p hp] at this
  exact this
theorem Q8_chart (h : Qw CK8 S1 S2 X Y s) (k : ∀ X' Y', Kp b X X' Y Y' → Qw CK8 S1 S2 X' Y' s → LKo X' s → CK8 X' s → Q (.inl none) (LX8 b) X' Y') : tX8_settleChart b [.ref 0] (LX8 b) X Y Q := by
  have n79 := nC8_79 b
  have ln : (LX8 b).length = nC8 b := rfl
  apply tX8_settleChart_i
  refine ⟨fun q => ?_, fun q => ?_⟩
  · refine Q8_lays h (fun X1 Y1 kp1 h1 e4 p1 l1 => cK0_mk ?_)
    have si := h1.si
    have em := may_eq si
    refine X1_draw_s (m := sm s) (mo := so s) (P := P0) (o := leQ s) l1.1 (fun hl => ?_) (fun X3 Y3 f3 g3 e6 n0 yes => cS0_mk ⟨(by first | exact Or.inl rfl | exact Or.inr rfl | exact Or.inl trivial | exact Or.inr trivial), ?_⟩)
    · have hq := (lay_ld si).mp hl
      exact ⟨by rw [em]; exact (leQ_is si hq).1, fun p hp => l1.least si hq p hp⟩
    rw [em] at yes
    rw [ln]
    have fa : ∀ c, c < nC8 b → (c < 65 ∨ 75 < c) → mg [65, 66, 67, 68, 69, 70, 71, 72, 73, 74, 75, 41, 42, 43, 44, 45, 46, 47, 48] (nC8 b) X1 X3 c = X1 c := fun c hc hd => mg_fr (ch := [0, 1, 2, 3, 4, 5, 6, 7, 8, 9, 10]) (fun i hi hj => f3 i (by simp only [List.mem_cons, List.not_mem_nil, or_false] at hj; omega) hi) hc (by simp; omega)
    have ya : ∀ c, c < nC8 b → mg [65, 66, 67, 68, 69, 70, 71, 72, 73, 74, 75, 41, 42, 43, 44, 45, 46, 47, 48] (nC8 b) Y1 Y3 c = Y1 c := fun c hc => mg_fr (ch := []) (fun i hi _ => g3 i hi) hc (by simp)
    have a0 : mg [65, 66, 67, 68, 69, 70, 71, 72, 73, 74, 75, 41, 42, 43, 44, 45, 46, 47, 48] (nC8 b) X1 X3 65 = X3 0 := mg_in 0 (by omega) rfl rfl
    have a1 : mg [65, 66, 67, 68, 69, 70, 71, 72, 73, 74, 75, 41, 42, 43, 44, 45, 46, 47, 48] (nC8 b) X1 X3 66 = X3 1 := mg_in 1 (by omega) rfl rfl
    have a2 : mg [65, 66, 67, 68, 69, 70, 71, 72, 73, 74, 75, 41, 42, 43, 44, 45, 46, 47, 48] (nC8 b) X1 X3 67 = X3 2 := mg_in 2 (by omega) rfl rfl
    have a3 : mg [65, 66, 67, 68, 69, 70, 71, 72, 73, 74, 75, 41, 42, 43, 44, 45, 46, 47, 48] (nC8 b) X1 X3 68 = X3 3 := mg_in 3 (by omega) rfl rfl
    have a4 : mg [65, 66, 67, 68, 69, 70, 71, 72, 73, 74, 75, 41, 42, 43, 44, 45, 46, 47, 48] (nC8 b) X1 X3 69 = X3 4 := mg_in 4 (by omega) rfl rfl
    have a5 : mg [65, 66, 67, 68, 69, 70, 71, 72, 73, 74, 75, 41, 42, 43, 44, 45, 46, 47, 48] (nC8 b) X1 X3 70 = X3 5 := mg_in 5 (by omega) rfl rfl
    revert fa ya a0 a1 a2 a3 a4 a5
    generalize mg [65, 66, 67, 68, 69, 70, 71, 72, 73, 74, 75, 41, 42, 43, 44, 45, 46, 47, 48] (nC8 b) X1 X3 = Z
    generalize mg [65, 66, 67, 68, 69, 70, 71, 72, 73, 74, 75, 41, 42, 43, 44, 45, 46, 47, 48] (nC8 b) Y1 Y3 = W
    intro fa ya a0 a1 a2 a3 a4 a5
    have zc : ∀ c, c ≠ 65 → up2 Z 65 6 (nI 1) c = Z c := fun c hc => up2_row hc
    have zx : ∀ c, c < nC8 b → (c < 65 ∨ 75 < c) → up2 Z 65 6 (nI 1) c = X1 c := fun c hc hd => (zc c (by omega)).trans (fa c hc hd)
    have ck : CK8 (up2 Z 65 6 (nI 1)) s := by
      unfold CK8
      rw [zc 66 (by omega), zc 67 (by omega), zc 68 (by omega), zc 69 (by omega), zc 70 (by omega), up2_idx (show (5 : Nat) ≠ 6 by omega), a0, a1, a2, a3, a4, a5]
      by_cases q : layQ s ∧ 0 < sm s
      · obtain ⟨T, T17, t1, t2, t3⟩ := yes ((lay_ld si).mpr q.1) q.2
        have eT := chZ_y q.1 q.2 t1
        rw [eT]
        have e5 := t2.1
        rw [t1.1] at e5
        refine ⟨e5, T17, fun x hx => ?_⟩
        obtain ⟨p1, p2, p3, p4, p5⟩ := t2.2.1 x hx
        exact ⟨t3 x hx, p1, p2, p3, p4, p5⟩
      · have ez : chZ s = 0 := by unfold chZ; rw [cif_n q]
        rw [ez]
        refine ⟨n0 ?_, by omega, fun x hx => by omega⟩
        by_cases q1 : layQ s
        · exact Or.inr (by have : ¬ 0 < sm s := fun y => q ⟨q1, y⟩
                           omega)
        · exact Or.inl (fun y => q1 ((lay_ld si).mp y))
    have lz : LKo (up2 Z 65 6 (nI 1)) s := l1.of (by rw [zx 41 (by omega) (by omega)]) (fun c c1 c2 => zx c (by omega) (by omega))
    refine k _ W (kp1.trans (fun c hc hd => ⟨zx c hc (by omega), ya c hc⟩)) (h1.c65 (fun c hc hd => zx c (by omega) hd) (fun c hc => ya c (by omega)) (Or.inr ⟨up2_same, by rw [zx 41 (by omega) (by omega)]; exact e4, ck⟩)) lz ck
  · obtain ⟨⟨hC, z1, z2⟩, q1, q2, q3, q4, q5, q6, q7, q8, q9, q10, q11⟩ := id h
    have e1 : X 65 6 = nI 1 := by
      rcases q9 with z | z
      · exact absurd z q
      · exact z.1
    have c := q9.get e1
    exact k X Y Kp.rfl h (q7.get c.1).2 c.2
theorem X8_node_s {p q : Int32} (h : Qw CK8 S1 S2 X Y s) (k : ∀ X' Y', Kp b X X' Y Y' → Qw CK8 S1 S2 X' Y' s → Q (aNode s p q) (LX8 b) X' Y') : tX8_node b [.ref 0, .int p, .int q] (LX8 b) X Y Q := by
  have n79 := nC8_79 b
  apply tX8_node_i
  refine Q8_needL h (fun hl X1 Y1 kp1 h1 e4 p1 l1 => cK0_mk ?_) (fun hl X1 Y1 kp1 h1 => cK0_ex ?_)
  · have si := h1.si
    have bad : ¬ (¬ q < 0 ∧ q ≤ nI 3) → Q (.inr XN) (LX8 b) X1 Y1 := fun hn => by
      have k' := k X1 Y1 kp1 h1
      unfold aNode at k'
      rw [cif_y hl, cif_n hn] at k'; exact k'
    refine ⟨fun z => bad (fun y => y.1 z), fun z => ⟨fun z2 => ?_, fun z2 => bad (fun y => z2 y.2)⟩⟩
    refine Q8_chart h1 (fun X2 Y2 kp2 h2 l2 ck => cK0_mk ?_)
    obtain ⟨k0, k17, kn⟩ := id ck
    have k' := k X2 Y2 (kp1.trans kp2) h2
    unfold aNode at k'
    rw [cif_y hl, cif_y ⟨z, z2⟩] at k'
    have none : ¬ (¬ p < 0 ∧ p.toNatClampNeg < chZ s) → Q (.inl (some (.int (-1)))) (LX8 b) X2 Y2 := fun hn => by
      rw [cif_n hn] at k'; exact k'
    refine ⟨fun y => none (fun w => w.1 y), fun y => ?_⟩
    rcases i32c p with y' | ⟨x, hx, rfl⟩
    · exact absurd y' y
    rw [k0, m_le (by omega) hx, m_lt hx (by omega)]
    rw [m_clamp hx] at none k' ⊢
    refine ⟨fun w => none (fun v => by omega), fun w => ?_⟩
    have hxz : x < chZ s := by omega
    rw [cif_y ⟨y, hxz⟩] at k'
    obtain ⟨n1, n2, n3, n4, n5, n6⟩ := kn x hxz
    have v17 : vp_in (nI x) 17 := (m_in hx).mpr (by omega)
    refine ⟨fun _ => ?_, fun v => absurd (by omega) v⟩
    have hq : ∃ w, w < 4 ∧ q = nI w := by
      rcases i32c q with y' | ⟨w, hw, rfl⟩
      · exact absurd y' z
      · rw [m_le hw (by omega)] at z2; exact ⟨w, by omega, rfl⟩
    obtain ⟨w, hw, rfl⟩ := hq
    have tq : (nI w).toInt = w := nI_toInt (by omega)
    rw [tq]
    unfold ndA at k'
    obtain rfl | rfl | rfl | rfl : w = 0 ∨ w = 1 ∨ w = 2 ∨ w = 3 := by omega
    · refine ⟨fun y => by omega, fun _ => ⟨v17, ?_⟩, fun y => by omega, fun y => by omega, trivial⟩
      rw [n5]; exact k'
    · refine ⟨fun y => by omega, fun y => by omega, fun _ => ⟨v17, v17, ?_⟩, fun y => by omega, trivial⟩
      rw [n2, n3]
      have hlt := (leQ_is si hl).1
      refine X1_from_s (r := []) (m := sm s) (o := leQ s) (lay_9 si hl) hlt (fun p hp => l2.least si hl p hp) n1.1.1 n1.1.2.1 (cS1_mk ?_)
      have e := Eq8.mg (b := b) (X := X2) (Y := Y2) [65, 66, 67, 68, 69, 70, 71, 72, 73, 74, 75, 41, 42, 43, 44, 45, 46, 47, 48]
      have k2 := k _ _ ((kp1.trans kp2).trans e.kp) (h2.scr e.scr)
      unfold aNode at k2
      rw [cif_y hl, cif_y ⟨z, z2⟩, m_clamp hx, cif_y ⟨y, hxz⟩] at k2
      exact k2
    · refine ⟨fun y => by omega, fun y => by omega, fun y => by omega, fun _ => ⟨v17, ?_⟩, trivial⟩
      rw [n4]; exact k'
    · refine ⟨fun _ => ⟨v17, ?_⟩, fun y => by omega, fun y => by omega, fun y => by omega, trivial⟩
      rw [n6]; exact k'
  · have k' := k X1 Y1 kp1 h1
    unfold aNode at k'
    rw [cif_n hl] at k'; exact k'
noncomputable def aSum (s : St) (q : Int32) : Rs := rI (cif (¬ q < 0 ∧ ¬ nI 6 < q) (cif (q = nI 6) (nI (chZ s)) (nI (suV s q.toNatClampNeg))) (-1))
theorem aSum_w {w : Nat} (hw : w < 6) : aSum s (nI w) = rI (nI (suV s w)) := by
  unfold aSum
  rw [cif_y ⟨nI_nn (by omega), fun y => by rw [m_lt (by omega) (by omega)] at y; omega⟩, cif_n (fun y => by have := (m_eq (a := w) (b := 6) (by omega) (by omega)).mp y; omega), m_clamp (by omega)]
theorem aSum_6 : aSum s (nI 6) = rI (nI (chZ s)) := by
  unfold aSum
  rw [cif_y ⟨by decide, by decide⟩, cif_y rfl]
theorem aSum_n {q : Int32} (h : q.toInt < 0 ∨ 6 < q.toInt) : aSum s q = rI (-1) := by
  unfold aSum
  rw [cif_n (fun z => by
    obtain ⟨w, hw, rfl⟩ := w6_c z
    rw [nI_toInt (by omega)] at h; omega)]
theorem X8_sum_a {q : Int32} (h : Qw CK8 S1 S2 X Y s) (k : ∀ X' Y', Kp b X X' Y Y' → Qw CK8 S1 S2 X' Y' s → Q (aSum s q) (LX8 b) X' Y') : tX8_sum b [.ref 0, .int q] (LX8 b) X Y Q := by
  refine X8_sum_s h (fun w X' Y' hw e kp hx => ?_) (fun e => Q8_chart h (fun X' Y' kp hx _ ck => cK0_mk ?_)) (fun hn => ?_)
  · have k' := k X' Y' kp hx
    rw [e, aSum_w hw] at k'; exact k'
  · have k' := k X' Y' kp hx
    rw [e, aSum_6] at k'
    rw [ck.1]; exact k'
  · have k' := k X Y Kp.rfl h
    rw [aSum_n hn] at k'; exact k'
end Nod8
