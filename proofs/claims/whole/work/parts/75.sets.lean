/-! the fewest, then the least bits: rings, small ones, those left out -/
def lsP (good : Nat → Prop) (N R : Nat) : Prop := R < N ∧ good R ∧ ∀ S, S < N → good S → cnt R < cnt S ∨ (cnt R = cnt S ∧ R ≤ S)
def bsP (good : Nat → Prop) (N z : Nat) : Prop := (z = 0 ∧ ∀ S, S < N → ¬ good S) ∨ lsP good N z
theorem lsP_uq {good : Nat → Prop} {N a b : Nat} (ha : lsP good N a) (hb : lsP good N b) : a = b := by
  have h1 := ha.2.2 b hb.1 hb.2.1
  have h2 := hb.2.2 a ha.1 ha.2.1
  omega
theorem bsP_uq {good : Nat → Prop} {N a b : Nat} (ha : bsP good N a) (hb : bsP good N b) : a = b := by
  rcases ha with ⟨rfl, ha⟩ | ha
  · rcases hb with ⟨rfl, -⟩ | hb
    · rfl
    · exact absurd hb.2.1 (ha b hb.1)
  · rcases hb with ⟨rfl, hb⟩ | hb
    · exact absurd ha.2.1 (hb a ha.1)
    · exact lsP_uq ha hb
theorem cnt_G {S G : Nat} (hG : G ≤ 9) (hS : S < 2 ^ G) : cnt S ≤ G := by
  rw [cnt_sz]
  have := gSz_out (P := Bs S) (n := G) (fun v hv => bit_lt hS hv) (64 - G)
  rw [show G + (64 - G) = 64 by omega] at this
  rw [this]; exact gSz_bd
theorem cnt_0 : cnt 0 = 0 := by decide +kernel
noncomputable def ringQ (s : St) : Nat := Classical.epsilon (bsP (rgP (Ms s)) (2 ^ sG s))
noncomputable def smallQ (s : St) : Nat := Classical.epsilon (bsP (fun S => ¬ cnB (Ms s) S) (2 ^ sG s))
noncomputable def aRing (s : St) : Rs := rI (nI (ringQ s))
noncomputable def aSmall (s : St) : Rs := rI (nI (smallQ s))
theorem ringQ_eq {s : St} {z : Nat} (h : bsP (rgP (Ms s)) (2 ^ sG s) z) : ringQ s = z := eps_uq h (fun _ hy => bsP_uq hy h)
theorem smallQ_eq {s : St} {z : Nat} (h : bsP (fun S => ¬ cnB (Ms s) S) (2 ^ sG s) z) : smallQ s = z := eps_uq h (fun _ hy => bsP_uq hy h)
/-- three, and no more, in a set -/
theorem sz_one {x N : Nat} : gSz (fun v => v = x) N ≤ 1 := by
  have h1 := gSz_inj (P := fun v => v = x) (fun _ => 0) (N := N) (N' := 1) (P' := fun _ => True) (fun _ _ _ => ⟨by omega, trivial⟩) (fun a b _ _ ha hb _ => ha.trans hb.symm)
  exact Nat.le_trans h1 gSz_bd
theorem sz_three {P : Nat → Prop} {x y z N : Nat} (h : ∀ v, P v → v = x ∨ v = y ∨ v = z) : gSz P N ≤ 3 := by
  have h0 : gSz P N ≤ gSz (fun v => v = x ∨ (v = y ∨ v = z)) N := gSz_le h
  have h1 := gSz_or (P := fun v => v = x) (P' := fun v => v = y ∨ v = z) N
  have h2 := gSz_or (P := fun v => v = y) (P' := fun v => v = z) N
  have a := sz_one (x := x) (N := N)
  have b := sz_one (x := y) (N := N)
  have c := sz_one (x := z) (N := N)
  omega
theorem ring_ch {M : Nat → Nat} {w S : Nat} {V : Nat → Prop} (hG : GM w M) (hw : w ≤ 64) (hC : gCh (Eo M) V) (hS : ∀ v, Bs S v → V v) (hSw : ∀ v, Bs S v → v < w) : ¬ rgP M S := by
  rintro ⟨h4, h2, hc⟩
  have hs : ∀ a b, Eo M a b → Eo M b a := fun a b e => (hG a b e).2.2.2
  have hex : ∃ x, Bs S x := Classical.byContradiction fun q => by
    have : S = 0 := eq0_bit (fun i => bsF.mp (fun z => q ⟨i, z⟩))
    rw [this, cnt_0] at h4; omega
  obtain ⟨x, hx, hsx⟩ := hC (Bs S) hS hex
  have bn : ∀ v u, Bs (M v &&& S) u ↔ Eo M v u ∧ Bs S u := fun v u => by unfold Bs Eo; rw [Nat.testBit_and, Bool.and_eq_true]
  have sz : ∀ v, Bs S v → gSz (Bs (M v &&& S)) 64 = 2 := fun v hv => by rw [← cnt_sz]; exact h2 v hv
  have two : ∀ v, Bs S v → ∃ y z, y ≠ z ∧ Eo M v y ∧ Bs S y ∧ Eo M v z ∧ Bs S z ∧ ∀ u, Eo M v u → Bs S u → u = y ∨ u = z := fun v hv => by
    have hy : ∃ y, Bs (M v &&& S) y := Classical.byContradiction fun q => by
      have := gSz_no (P := Bs (M v &&& S)) (fun u z => q ⟨u, z⟩) (n := 64)
      have := sz v hv; omega
    obtain ⟨y, hy⟩ := hy
    have hy' := (bn v y).mp hy
    have hz : ∃ z, Bs (M v &&& S) z ∧ z ≠ y := Classical.byContradiction fun q => by
      have h1 := gSz_inj (P := Bs (M v &&& S)) (fun _ => 0) (N := 64) (N' := 1) (P' := fun _ => True) (fun _ _ _ => ⟨by omega, trivial⟩) (fun a b _ _ ha hb _ => by
        have e1 : a = y := Classical.byContradiction fun z => q ⟨a, ha, z⟩
        have e2 : b = y := Classical.byContradiction fun z => q ⟨b, hb, z⟩
        rw [e1, e2])
      have := gSz_bd (P := fun _ : Nat => True) (n := 1)
      have := sz v hv; omega
    obtain ⟨z, hz, hne⟩ := hz
    have hz' := (bn v z).mp hz
    refine ⟨y, z, fun e => hne e.symm, hy'.1, hy'.2, hz'.1, hz'.2, fun u hu hus => Classical.byContradiction fun q => ?_⟩
    have h1 := gSz_inj (P := fun i => i < 3) (fun i => if i = 0 then y else if i = 1 then z else u) (N := 3) (N' := 64) (P' := Bs (M v &&& S)) (fun i _ _ => by
      have hyw := hSw y hy'.2
      have hzw := hSw z hz'.2
      have huw := hSw u hus
      refine ⟨by split <;> (try split) <;> omega, ?_⟩
      split
      · exact hy
      · split
        · exact hz
        · exact (bn v u).mpr ⟨hu, hus⟩) (fun a b ha hb _ _ e => by
      have a3 : a = 0 ∨ a = 1 ∨ a = 2 := by omega
      have b3 : b = 0 ∨ b = 1 ∨ b = 2 := by omega
      have n1 : u ≠ y := fun e => q (Or.inl e)
      have n2 : u ≠ z := fun e => q (Or.inr e)
      rcases a3 with rfl | rfl | rfl <;> rcases b3 with rfl | rfl | rfl <;> simp at e <;> first | rfl | exact absurd e hne | exact absurd e.symm hne | exact absurd e n1 | exact absurd e.symm n1 | exact absurd e n2 | exact absurd e.symm n2)
    have h2 : gSz (fun i => i < 3) 3 = 3 := by simp [gSz]
    have := sz v hv; omega
  obtain ⟨y, z, hyz, exy, hy, exz, hz, hall⟩ := two x hx
  have eyz : Eo M y z := (hsx y z hy hz exy exz).resolve_left hyz
  -- all are these three
  have clo : ∀ u, gRch (Eo M) (Bs S) x u → u = x ∨ u = y ∨ u = z := fun u hu => hu (fun u => u = x ∨ u = y ∨ u = z) (Or.inl rfl) (fun a b ha hSa hSb e => by
    have xy : x ≠ y := fun q => (hG x y exy).2.2.1 q
    have xz : x ≠ z := fun q => (hG x z exz).2.2.1 q
    rcases ha with rfl | rfl | rfl
    · exact Or.inr (hall b e hSb)
    · obtain ⟨p, q, hpq, -, -, -, -, h9⟩ := two a hSa
      rcases h9 b e hSb with rfl | rfl <;> rcases h9 x (hs _ _ exy) hx with e1 | e1 <;> rcases h9 z eyz hz with e2 | e2 <;> first | exact Or.inl e1.symm | exact Or.inr (Or.inr e2.symm) | exact absurd (e1.trans e2.symm) xz
    · obtain ⟨p, q, hpq, -, -, -, -, h9⟩ := two a hSa
      rcases h9 b e hSb with rfl | rfl <;> rcases h9 x (hs _ _ exz) hx with e1 | e1 <;> rcases h9 y (hs _ _ eyz) hy with e2 | e2 <;> first | exact Or.inl e1.symm | exact Or.inr (Or.inl e2.symm) | exact absurd (e1.trans e2.symm) xy)
  have h9 := sz_three (P := Bs S) (N := 64) (x := x) (y := y) (z := z) (fun v hv => clo v (hc x v hx hv))
  rw [← cnt_sz] at h9; omega
/-- three or fewer can be laid -/
theorem small_4 {M : Nat → Nat} {w S : Nat} (hG : GM w M) (hw : w ≤ 64) (hSw : ∀ v, Bs S v → v < w) (h : ¬ cnB M S) : 4 ≤ cnt S := by
  have hs : ∀ a b, Eo M a b → Eo M b a := fun a b e => (hG a b e).2.2.2
  refine Classical.byContradiction fun hn => h ?_
  have h3 : gSz (Bs S) 64 ≤ 3 := by rw [← cnt_sz]; omega
  -- four unlike ones are too many
  have four : ∀ a b c d, Bs S a → Bs S b → Bs S c → Bs S d → a ≠ b → a ≠ c → a ≠ d → b ≠ c → b ≠ d → c ≠ d → False := by
    intro a b c d ha hb hc hd n1 n2 n3 n4 n5 n6
    have h1 := gSz_inj (P := fun i => i < 4) (fun i => if i = 0 then a else if i = 1 then b else if i = 2 then c else d) (N := 4) (N' := 64) (P' := Bs S) (fun i _ _ => by
      have := hSw a ha; have := hSw b hb; have := hSw c hc; have := hSw d hd
      refine ⟨by split <;> (try split) <;> (try split) <;> omega, ?_⟩
      split
      · exact ha
      · split
        · exact hb
        · split
          · exact hc
          · exact hd) (fun x y hx hy _ _ e => by
      have a3 : x = 0 ∨ x = 1 ∨ x = 2 ∨ x = 3 := by omega
      have b3 : y = 0 ∨ y = 1 ∨ y = 2 ∨ y = 3 := by omega
      rcases a3 with rfl | rfl | rfl | rfl <;> rcases b3 with rfl | rfl | rfl | rfl <;> simp at e <;> first | rfl | exact absurd e n1 | exact absurd e.symm n1 | exact absurd e n2 | exact absurd e.symm n2 | exact absurd e n3 | exact absurd e.symm n3 | exact absurd e n4 | exact absurd e.symm n4 | exact absurd e n5 | exact absurd e.symm n5 | exact absurd e n6 | exact absurd e.symm n6)
    have h2 : gSz (fun i => i < 4) 4 = 4 := by simp [gSz]
    omega
  constructor
  · intro T hT ⟨x, hx⟩
    refine Classical.byContradiction fun hno => ?_
    have ns : ∀ v, T v → ∃ y z, T y ∧ T z ∧ Eo M v y ∧ Eo M v z ∧ y ≠ z ∧ ¬ Eo M y z := fun v hv => Classical.byContradiction fun q => hno ⟨v, hv, fun y z hy hz ey ez => by
      by_cases e1 : y = z
      · exact Or.inl e1
      · exact Or.inr (Classical.byContradiction fun e2 => q ⟨y, z, hy, hz, ey, ez, e1, e2⟩)⟩
    obtain ⟨y, z, hy, hz, exy, exz, hyz, nyz⟩ := ns x hx
    obtain ⟨p, q, hp, hq, eyp, eyq, hpq, npq⟩ := ns y hy
    have xy := (hG x y exy).2.2.1
    have xz := (hG x z exz).2.2.1
    have py := (hG y p eyp).2.2.1
    have qy := (hG y q eyq).2.2.1
    by_cases e1 : p = x
    · subst e1
      have nq : q ≠ z := fun e => nyz (e ▸ eyq)
      exact four p y z q (hT _ hx) (hT _ hy) (hT _ hz) (hT _ hq) xy xz hpq hyz qy (fun e => nq e.symm)
    · have np : p ≠ z := fun e => nyz (e ▸ eyp)
      exact four x y z p (hT _ hx) (hT _ hy) (hT _ hz) (hT _ hp) xy xz (fun e => e1 e.symm) hyz py (fun e => np e.symm)
  · intro a b c ha hb hc n1 n2 n3 e1 e2 e3 r1 r2 r3
    have h9 := r1 (fun v => v = a) rfl (fun x y hx _ hy e => by
      subst hx
      refine Classical.byContradiction fun q => ?_
      have : y ≠ b := fun z => e1 (z ▸ e)
      have : y ≠ c := fun z => e2 (z ▸ e)
      exact four x b c y ha hb hc hy.1 n1 n2 (fun z => q z.symm) n3 (fun z => by omega) (fun z => by omega))
    exact n1 h9.symm
theorem cnB_sub {M : Nat → Nat} {S S' : Nat} (h : cnB M S) (hs : ∀ v, Bs S' v → Bs S v) : cnB M S' := ⟨h.1.sub hs, h.2.sub hs⟩
section Sets8
variable {CK S1 S2 : HX → St → Prop} {X X' : HX} {Y Y' : HY} {s : St} {b : Bool} {Q : Qt}
theorem cut_w (hI : SI s) {S : Nat} (hS : S < 2 ^ sG s) : S < 1152921504606846976 ∧ ∀ v, Bs S v → v < 10 := by
  have := pw9 hI.1
  exact ⟨by omega, fun v hv => by have := bit_lt hS hv; have := hI.1; omega⟩
/-- Meetings asked about some -/
theorem Q8_layable {S : Nat} (h : Qw CK S1 S2 X Y s) (pk : PKo X Y s) (hS : S < 2 ^ sG s) {C : Int32 → HX → HY → Prop} (k : ∀ (z : Bool) X' Y', Scr b X X' Y Y' → Qw CK S1 S2 X' Y' s → PKo X' Y' s → (z = true ↔ cnB (Ms s) S) → C (nI z.toNat) X' Y') : tX4_isLayable [.ref 0, .long (lN S)] (LX4 10 ++ []) (sb [33, 34, 35, 36] X) (sb [33, 34, 35, 36] Y) (cS1 (LX4 10 ++ []) (LX8 b) [33, 34, 35, 36] (LX8 b).length X Y Q C) := by
  obtain ⟨w1, w2⟩ := cut_w h.si hS
  refine X4_isLayable_s (h.vm pk) (Ms_gm h.si) w1 w2 (fun z X3 Y3 f1 f2 g hz => cS1_mk ?_)
  have sc := scr33 (b := b) (X := X) (Y := Y) f1 f2 g
  exact k z _ _ sc (h.scr sc) (sc.pk pk) hz
theorem Q8_isRing {S : Nat} (h : Qw CK S1 S2 X Y s) (pk : PKo X Y s) (hS : S < 2 ^ sG s) {C : Int32 → HX → HY → Prop} (k : ∀ (z : Bool) X' Y', Scr b X X' Y Y' → Qw CK S1 S2 X' Y' s → PKo X' Y' s → (z = true ↔ rgP (Ms s) S) → C (nI z.toNat) X' Y') : tX4_isRing [.ref 0, .long (lN S)] (LX4 10 ++ []) (sb [33, 34, 35, 36] X) (sb [33, 34, 35, 36] Y) (cS1 (LX4 10 ++ []) (LX8 b) [33, 34, 35, 36] (LX8 b).length X Y Q C) := by
  obtain ⟨w1, w2⟩ := cut_w h.si hS
  refine X4_isRing_s (h.vm pk) (Ms_gm h.si) w1 w2 (fun z hz => cS1_mk ?_)
  have sc := (Eq8.mg (b := b) (X := X) (Y := Y) [33, 34, 35, 36]).scr
  exact k z _ _ sc (h.scr sc) (sc.pk pk) hz
theorem X8_ring_s (h : Qw CK S1 S2 X Y s) (k : ∀ X' Y', Kp b X X' Y Y' → Qw CK S1 S2 X' Y' s → Q (aRing s) (LX8 b) X' Y') : tX8_ring b [.ref 0] (LX8 b) X Y Q := by
  have g9 := h.si.1
  have hT := pw9 g9
  apply tX8_ring_i
  refine Q8_pairs h (fun X1 Y1 kp hq pk => cK0_mk ?_)
  refine Q8_all hq (cK2_mk (X4_isRingless_s (r := []) (hq.vm pk) (Ms_gm h.si) (full_bd h.si) (full_w h.si) (fun y X3 f1 f2 hy _ => cS1_mk ?_)))
  have sc := scr33 (b := b) (X := X1) (Y := Y1) f1 f2 (fun c _ => rfl)
  have kp2 := kp.trans sc.kp
  have hq2 := hq.scr sc
  have pk2 := sc.pk pk
  refine ⟨fun q => ?_, fun q => ?_⟩
  · revert kp2 hq2 pk2
    generalize mg [33, 34, 35, 36] (LX8 b).length X1 X3 = X2
    generalize mg [33, 34, 35, 36] (LX8 b).length Y1 (sb [33, 34, 35, 36] Y1) = Y2
    intro kp2 hq2 pk2
    have H : ∀ n m X Y', m + n = sG s + 1 → Kp b X2 X Y2 Y' → Qw CK S1 S2 X Y' s → PKo X Y' s → (∀ S, S < 2 ^ sG s → rgP (Ms s) S → m ≤ cnt S) → hX8_ring_22 Q b (nI m) X Y' := by
      intro n
      induction n with
      | zero =>
        intro m X Y' hm kp' hq pk hI
        apply hX8_ring_22_i
        rw [hq.bv.1]
        simp (disch := omega) only [m_0, m_L0, m_lt, m_le, m_eq, m_neg, m_in, m_clamp, m_add, m_sub, m_pred, m_mul, m_l, m_i, m_Land, m_Lor, m_and, m_or, m_xor, m_Landn, m_andn, m_LshlP, m_shl, m_LbitP, m_bit, m_cmp0P, m_Lb0, m_Lb1, m_b0, m_b1, Nat.one_mul]
        refine ⟨fun _ => ?_, fun h => by omega⟩
        have k' := k _ _ (kp2.trans kp') hq
        unfold aRing at k'
        rw [ringQ_eq (Or.inl ⟨rfl, fun S hS hr => by have := hI S hS hr; have := cnt_G g9 hS; omega⟩)] at k'
        exact k'
      | succ n ih =>
        intro m X Y' hm kp' hq pk hI
        apply hX8_ring_22_i
        rw [hq.bv.1]
        simp (disch := omega) only [m_0, m_L0, m_lt, m_le, m_eq, m_neg, m_in, m_clamp, m_add, m_sub, m_pred, m_mul, m_l, m_i, m_Land, m_Lor, m_and, m_or, m_xor, m_Landn, m_andn, m_LshlP, m_shl, m_LbitP, m_bit, m_cmp0P, m_Lb0, m_Lb1, m_b0, m_b1, Nat.one_mul]
        refine ⟨fun h => by omega, fun _ => ?_⟩
        have G : ∀ t j X Y', j + t = 2 ^ sG s → Kp b X2 X Y2 Y' → Qw CK S1 S2 X Y' s → PKo X Y' s → (∀ S, S < 2 ^ sG s → rgP (Ms s) S → m < cnt S ∨ (m = cnt S ∧ j ≤ S)) → hX8_ring_35 Q b (nI m) (nI j) X Y' := by
          intro t
          induction t with
          | zero =>
            intro j X Y' hj kp' hq pk hJ
            apply hX8_ring_35_i
            rw [hq.bv.1]
            simp (disch := omega) only [m_0, m_L0, m_lt, m_le, m_eq, m_neg, m_in, m_clamp, m_add, m_sub, m_pred, m_mul, m_l, m_i, m_Land, m_Lor, m_and, m_or, m_xor, m_Landn, m_andn, m_LshlP, m_shl, m_LbitP, m_bit, m_cmp0P, m_Lb0, m_Lb1, m_b0, m_b1, Nat.one_mul]
            exact ⟨fun _ => ih (m + 1) X Y' (by omega) kp' hq pk (fun S hS hr => by have := hJ S hS hr; omega), fun h => by omega⟩
          | succ t iht =>
            intro j X Y' hj kp' hq pk hJ
            have hjT : j < 2 ^ sG s := by omega
            have hcl := cnt_le j
            apply hX8_ring_35_i
            rw [hq.bv.1]
            simp (disch := omega) only [m_0, m_L0, m_lt, m_le, m_eq, m_neg, m_in, m_clamp, m_add, m_sub, m_pred, m_mul, m_l, m_i, m_Land, m_Lor, m_and, m_or, m_xor, m_Landn, m_andn, m_LshlP, m_shl, m_LbitP, m_bit, m_cmp0P, m_Lb0, m_Lb1, m_b0, m_b1, Nat.one_mul]
            refine ⟨fun h => by omega, fun _ => bc32 (by omega) (cK1_mk ?_)⟩
            simp (disch := omega) only [m_0, m_L0, m_lt, m_le, m_eq, m_neg, m_in, m_clamp, m_add, m_sub, m_pred, m_mul, m_l, m_i, m_Land, m_Lor, m_and, m_or, m_xor, m_Landn, m_andn, m_LshlP, m_shl, m_LbitP, m_bit, m_cmp0P, m_Lb0, m_Lb1, m_b0, m_b1, Nat.one_mul]
            refine ⟨fun hne => iht (j + 1) X Y' (by omega) kp' hq pk (fun S hS hr => ?_), fun he => ?_⟩
            · rcases hJ S hS hr with z | ⟨z1, z2⟩
              · exact Or.inl z
              · exact Or.inr ⟨z1, by
                  by_cases e : j = S
                  · subst e; exact absurd z1.symm hne
                  · omega⟩
            · have he := Classical.not_not.mp he
              refine Q8_isRing hq pk hjT (fun z X5 Y5 sc5 hq5 pk5 hz => ⟨fun q2 => iht (j + 1) X5 Y5 (by omega) (kp'.trans sc5.kp) hq5 pk5 (fun S hS hr => ?_), fun q2 => ?_⟩)
              · rcases hJ S hS hr with z' | ⟨z1, z2⟩
                · exact Or.inl z'
                · exact Or.inr ⟨z1, by
                    by_cases e : j = S
                    · subst e; rw [hz.mpr hr] at q2; exact absurd q2 (by decide)
                    · omega⟩
              · have k' := k _ _ (kp2.trans (kp'.trans sc5.kp)) hq5
                unfold aRing at k'
                rw [ringQ_eq (Or.inr ⟨hjT, hz.mp (z11 q2), fun S hS hr => by have := hJ S hS hr; omega⟩)] at k'
                exact k'
        exact G _ 0 X Y' (Nat.zero_add _) kp' hq pk (fun S hS hr => by have := hI S hS hr; omega)
    by_cases g4 : 4 ≤ sG s + 1
    · exact H _ 4 X2 Y2 (Nat.add_sub_cancel' g4) Kp.rfl hq2 pk2 (fun S hS hr => hr.1)
    · have no : ∀ S, S < 2 ^ sG s → ¬ rgP (Ms s) S := fun S hS hr => by have := hr.1; have := cnt_G g9 hS; omega
      apply hX8_ring_22_i
      rw [hq2.bv.1]
      simp (disch := omega) only [m_0, m_L0, m_lt, m_le, m_eq, m_neg, m_in, m_clamp, m_add, m_sub, m_pred, m_mul, m_l, m_i, m_Land, m_Lor, m_and, m_or, m_xor, m_Landn, m_andn, m_LshlP, m_shl, m_LbitP, m_bit, m_cmp0P, m_Lb0, m_Lb1, m_b0, m_b1, Nat.one_mul]
      refine ⟨fun _ => ?_, fun h => by omega⟩
      have k' := k _ _ kp2 hq2
      unfold aRing at k'
      rw [ringQ_eq (Or.inl ⟨rfl, no⟩)] at k'
      exact k'
  · have hc := hy.mp (z11 q)
    have k' := k _ _ kp2 hq2
    unfold aRing at k'
    rw [ringQ_eq (Or.inl ⟨rfl, fun S hS => ring_ch (Ms_gm h.si) (by omega) hc (fun v hv => bs_full.mpr (bit_lt hS hv)) (cut_w h.si hS).2⟩)] at k'
    exact k'
theorem X8_small_s (h : Qw CK S1 S2 X Y s) (k : ∀ X' Y', Kp b X X' Y Y' → Qw CK S1 S2 X' Y' s → Q (aSmall s) (LX8 b) X' Y') : tX8_small b [.ref 0] (LX8 b) X Y Q := by
  have g9 := h.si.1
  have hT := pw9 g9
  apply tX8_small_i
  refine Q8_lays h (fun X1 Y1 kp hq e4 pk lk => cK0_mk ?_)
  have e := Eq8.mg (b := b) (X := X1) (Y := Y1) S41
  refine Q8_laid hq lk (fun y hy => cS1_mk ?_)
  have kp2 := kp.trans e.kp
  have hq2 := hq.scr e.scr
  have pk2 := e.scr.pk pk
  revert kp2 hq2 pk2
  generalize mg S41 (LX8 b).length X1 (sb S41 X1) = X2
  generalize mg S41 (LX8 b).length Y1 (sb S41 Y1) = Y2
  intro kp2 hq2 pk2
  have f4 : ∀ S, S < 2 ^ sG s → ¬ cnB (Ms s) S → 4 ≤ cnt S := fun S hS hn => small_4 (Ms_gm h.si) (by omega) (cut_w h.si hS).2 hn
  refine ⟨fun q => ?_, fun q => ?_⟩
  · have H : ∀ n m X Y', m + n = sG s + 1 → Kp b X2 X Y2 Y' → Qw CK S1 S2 X Y' s → PKo X Y' s → (∀ S, S < 2 ^ sG s → ¬ cnB (Ms s) S → m ≤ cnt S) → hX8_small_18 Q b (nI m) X Y' := by
      intro n
      induction n with
      | zero =>
        intro m X Y' hm kp' hq pk hI
        apply hX8_small_18_i
        rw [hq.bv.1]
        simp (disch := omega) only [m_0, m_L0, m_lt, m_le, m_eq, m_neg, m_in, m_clamp, m_add, m_sub, m_pred, m_mul, m_l, m_i, m_Land, m_Lor, m_and, m_or, m_xor, m_Landn, m_andn, m_LshlP, m_shl, m_LbitP, m_bit, m_cmp0P, m_Lb0, m_Lb1, m_b0, m_b1, Nat.one_mul]
        refine ⟨fun _ => ?_, fun h => by omega⟩
        have k' := k _ _ (kp2.trans kp') hq
        unfold aSmall at k'
        rw [smallQ_eq (Or.inl ⟨rfl, fun S hS hr => by have := hI S hS hr; have := cnt_G g9 hS; omega⟩)] at k'
        exact k'
      | succ n ih =>
        intro m X Y' hm kp' hq pk hI
        apply hX8_small_18_i
        rw [hq.bv.1]
        simp (disch := omega) only [m_0, m_L0, m_lt, m_le, m_eq, m_neg, m_in, m_clamp, m_add, m_sub, m_pred, m_mul, m_l, m_i, m_Land, m_Lor, m_and, m_or, m_xor, m_Landn, m_andn, m_LshlP, m_shl, m_LbitP, m_bit, m_cmp0P, m_Lb0, m_Lb1, m_b0, m_b1, Nat.one_mul]
        refine ⟨fun h => by omega, fun _ => ?_⟩
        have G : ∀ t j X Y', j + t = 2 ^ sG s → Kp b X2 X Y2 Y' → Qw CK S1 S2 X Y' s → PKo X Y' s → (∀ S, S < 2 ^ sG s → ¬ cnB (Ms s) S → m < cnt S ∨ (m = cnt S ∧ j ≤ S)) → hX8_small_31 Q b (nI m) (nI j) X Y' := by
          intro t
          induction t with
          | zero =>
            intro j X Y' hj kp' hq pk hJ
            apply hX8_small_31_i
            rw [hq.bv.1]
            simp (disch := omega) only [m_0, m_L0, m_lt, m_le, m_eq, m_neg, m_in, m_clamp, m_add, m_sub, m_pred, m_mul, m_l, m_i, m_Land, m_Lor, m_and, m_or, m_xor, m_Landn, m_andn, m_LshlP, m_shl, m_LbitP, m_bit, m_cmp0P, m_Lb0, m_Lb1, m_b0, m_b1, Nat.one_mul]
            exact ⟨fun _ => ih (m + 1) X Y' (by omega) kp' hq pk (fun S hS hr => by have := hJ S hS hr; omega), fun h => by omega⟩
          | succ t iht =>
            intro j X Y' hj kp' hq pk hJ
            have hjT : j < 2 ^ sG s := by omega
            have hcl := cnt_le j
            apply hX8_small_31_i
            rw [hq.bv.1]
            simp (disch := omega) only [m_0, m_L0, m_lt, m_le, m_eq, m_neg, m_in, m_clamp, m_add, m_sub, m_pred, m_mul, m_l, m_i, m_Land, m_Lor, m_and, m_or, m_xor, m_Landn, m_andn, m_LshlP, m_shl, m_LbitP, m_bit, m_cmp0P, m_Lb0, m_Lb1, m_b0, m_b1, Nat.one_mul]
            refine ⟨fun h => by omega, fun _ => bc32 (by omega) (cK1_mk ?_)⟩
            simp (disch := omega) only [m_0, m_L0, m_lt, m_le, m_eq, m_neg, m_in, m_clamp, m_add, m_sub, m_pred, m_mul, m_l, m_i, m_Land, m_Lor, m_and, m_or, m_xor, m_Landn, m_andn, m_LshlP, m_shl, m_LbitP, m_bit, m_cmp0P, m_Lb0, m_Lb1, m_b0, m_b1, Nat.one_mul]
            refine ⟨fun hne => iht (j + 1) X Y' (by omega) kp' hq pk (fun S hS hr => ?_), fun he => ?_⟩
            · rcases hJ S hS hr with z | ⟨z1, z2⟩
              · exact Or.inl z
              · exact Or.inr ⟨z1, by
                  by_cases e : j = S
                  · subst e; exact absurd z1.symm hne
                  · omega⟩
            · have he := Classical.not_not.mp he
              refine Q8_layable hq pk hjT (fun z X5 Y5 sc5 hq5 pk5 hz => ⟨fun q2 => iht (j + 1) X5 Y5 (by omega) (kp'.trans sc5.kp) hq5 pk5 (fun S hS hr => ?_), fun q2 => ?_⟩)
              · rcases hJ S hS hr with z' | ⟨z1, z2⟩
                · exact Or.inl z'
                · exact Or.inr ⟨z1, by
                    by_cases e : j = S
                    · subst e; exact absurd (hz.mp (z11 q2)) hr
                    · omega⟩
              · have k' := k _ _ (kp2.trans (kp'.trans sc5.kp)) hq5
                unfold aSmall at k'
                rw [smallQ_eq (Or.inr ⟨hjT, fun y => q2 (by rw [hz.mpr y]; decide), fun S hS hr => by have := hJ S hS hr; omega⟩)] at k'
                exact k'
        exact G _ 0 X Y' (Nat.zero_add _) kp' hq pk (fun S hS hr => by have := hI S hS hr; omega)
    by_cases g4 : 4 ≤ sG s + 1
    · exact H _ 4 X2 Y2 (Nat.add_sub_cancel' g4) Kp.rfl hq2 pk2 f4
    · apply hX8_small_18_i
      rw [hq2.bv.1]
      simp (disch := omega) only [m_0, m_L0, m_lt, m_le, m_eq, m_neg, m_in, m_clamp, m_add, m_sub, m_pred, m_mul, m_l, m_i, m_Land, m_Lor, m_and, m_or, m_xor, m_Landn, m_andn, m_LshlP, m_shl, m_LbitP, m_bit, m_cmp0P, m_Lb0, m_Lb1, m_b0, m_b1, Nat.one_mul]
      refine ⟨fun _ => ?_, fun h => by omega⟩
      have k' := k _ _ kp2 hq2
      unfold aSmall at k'
      rw [smallQ_eq (Or.inl ⟨rfl, fun S hS hr => by have := f4 S hS hr; have := cnt_G g9 hS; omega⟩)] at k'
      exact k'
  · have hl := hy.mp (z11 q)
    have k' := k _ _ kp2 hq2
    unfold aSmall at k'
    rw [smallQ_eq (Or.inl ⟨rfl, fun S hS hn => hn (cnB_sub hl (fun v hv => bs_full.mpr (bit_lt hS hv)))⟩)] at k'
    exact k'
end Sets8
section Sets9
variable {CM : HX → St → Prop} {X X' : HX} {Y Y' : HY} {s : St} {r : Ly} {Q : Qt}
/-- the best so far -/
def bsI (good : Nat → Prop) (j z : Nat) : Prop := (z = 0 ∧ ∀ S, S < j → ¬ good S) ∨ (0 < z ∧ lsP good j z)
theorem bsI_skip {good : Nat → Prop} {j z : Nat} (h : bsI good j z) (hn : good j → z ≠ 0 ∧ cnt z ≤ cnt j) : bsI good (j + 1) z := by
  rcases h with ⟨h1, h2⟩ | ⟨h0, h1, h2, h3⟩
  · refine Or.inl ⟨h1, fun S hS hg => ?_⟩
    by_cases e : S = j
    · subst e; exact (hn hg).1 h1
    · exact h2 S (by omega) hg
  · refine Or.inr ⟨h0, by omega, h2, fun S hS hg => ?_⟩
    by_cases e : S = j
    · subst e; have := (hn hg).2; omega
    · exact h3 S (by omega) hg
theorem bsI_take {good : Nat → Prop} {j z : Nat} (h : bsI good j z) (hj : 0 < j) (hg : good j) (hn : z ≠ 0 → cnt j < cnt z) : bsI good (j + 1) j := by
  refine Or.inr ⟨hj, by omega, hg, fun S hS hgS => ?_⟩
  by_cases e : S = j
  · subst e; omega
  · rcases h with ⟨h1, h2⟩ | ⟨h0, h1, h2, h3⟩
    · exact absurd hgS (h2 S (by omega))
    · have := h3 S (by omega) hgS
      have := hn (by omega); omega
theorem bsI_end {good : Nat → Prop} {N z : Nat} (h : bsI good N z) : bsP good N z := h.imp id (fun q => q.2)
theorem X9_ring_s (h : Mw CM X Y s) (k : ∀ X' Y' res, ScM X X' Y Y' → Mw CM X' Y' s → ansM cd1 (aRing s) (X' 0 0) res → Q res (LX9 ++ r) X' Y') : tX9_ring [.ref 0] (LX9 ++ r) X Y Q := by
  have s0 : ScM X (up2 X 0 0 (nI 0)) Y Y := .up (by decide)
  have g9 := h.si.1
  have hT := pw9 g9
  have hT0 := Nat.two_pow_pos (sG s)
  apply tX9_ring_i
  refine Q9_plain (h.sc s0) (fun X1 sc1 e1 h1 n1 _ _ => cK0_mk ?_)
  apply tX9_leastRing_i
  have H : ∀ t j z, j + t = 2 ^ sG s → 0 < j → z < 1024 → bsI (rgP (Ms s)) j z → hX9_leastRing_4 (cK1 (LX9 ++ r) Q (fun x2 X2 Y2 => Q (.inl (some (.int x2))) (LX9 ++ r) X2 Y2)) r (nI z) (nI j) X1 Y := by
    intro t
    induction t with
    | zero =>
      intro j z hj j0 hz1 hz
      have ej : j = 2 ^ sG s := by omega
      apply hX9_leastRing_4_i
      refine Q9_all h1 (cK1_mk ?_)
      simp (disch := omega) only [m_0, m_L0, m_lt, m_le, m_eq, m_neg, m_in, m_clamp, m_add, m_sub, m_pred, m_mul, m_l, m_i, m_Land, m_Lor, m_and, m_or, m_xor, m_Landn, m_andn, m_LshlP, m_shl, m_LbitP, m_bit, m_cmp0P, m_Lb0, m_Lb1, m_b0, m_b1, Nat.one_mul]
      refine ⟨fun _ => cK1_mk ?_, fun h => by omega⟩
      have kk := k X1 Y (rI (nI z)) (s0.trans sc1) h1
      unfold aRing at kk
      rw [e1, up2_same, ringQ_eq (bsI_end (ej ▸ hz))] at kk
      exact kk ⟨rfl, rfl⟩
    | succ t ih =>
      intro j z hj j0 hz1 hz
      have hjT : j < 2 ^ sG s := by omega
      have c1 := cnt_le j
      have c2 := cnt_le z
      apply hX9_leastRing_4_i
      refine Q9_all h1 (cK1_mk ?_)
      simp (disch := omega) only [m_0, m_L0, m_lt, m_le, m_eq, m_neg, m_in, m_clamp, m_add, m_sub, m_pred, m_mul, m_l, m_i, m_Land, m_Lor, m_and, m_or, m_xor, m_Landn, m_andn, m_LshlP, m_shl, m_LbitP, m_bit, m_cmp0P, m_Lb0, m_Lb1, m_b0, m_b1, Nat.one_mul]
      refine ⟨fun h => by omega, fun _ => X9_isRing_s n1 (Ms_gm h.si) (by omega) (fun y hy => cK1_mk ⟨fun q => ih (j + 1) z (by omega) (by omega) hz1 (bsI_skip hz (fun g => by rw [hy.mpr g] at q; exact absurd q (by decide))), fun q => ?_⟩)⟩
      have hg := hy.mp (z11 q)
      refine ⟨fun h0 => ih (j + 1) j (by omega) (by omega) (by omega) (bsI_take hz j0 hg (fun q => absurd h0 q)), fun h0 => bc32 (by omega) (cK1_mk (bc32 (by omega) (cK1_mk ?_)))⟩
      simp (disch := omega) only [m_0, m_L0, m_lt, m_le, m_eq, m_neg, m_in, m_clamp, m_add, m_sub, m_pred, m_mul, m_l, m_i, m_Land, m_Lor, m_and, m_or, m_xor, m_Landn, m_andn, m_LshlP, m_shl, m_LbitP, m_bit, m_cmp0P, m_Lb0, m_Lb1, m_b0, m_b1, Nat.one_mul]
      exact ⟨fun hle => ih (j + 1) z (by omega) (by omega) hz1 (bsI_skip hz (fun _ => ⟨h0, hle⟩)), fun hle => ih (j + 1) j (by omega) (by omega) (by omega) (bsI_take hz j0 hg (fun _ => by omega))⟩
  exact H _ 1 0 (Nat.add_sub_cancel' (by omega : 1 ≤ 2 ^ sG s)) (by omega) (by omega) (Or.inl ⟨rfl, fun S hS hr => by
    have e : S = 0 := by omega
    have := hr.1; rw [e, cnt_0] at this; omega⟩)
theorem X9_small_s (h : Mw CM X Y s) (k : ∀ X' Y' res, ScM X X' Y Y' → Mw CM X' Y' s → ansM cd1 (aSmall s) (X' 0 0) res → Q res (LX9 ++ r) X' Y') : tX9_small [.ref 0] (LX9 ++ r) X Y Q := by
  have s0 : ScM X (up2 X 0 0 (nI 0)) Y Y := .up (by decide)
  have g9 := h.si.1
  have hT := pw9 g9
  have hT0 := Nat.two_pow_pos (sG s)
  apply tX9_small_i
  refine Q9_plain (h.sc s0) (fun X1 sc1 e1 h1 n1 _ _ => cK0_mk ?_)
  have H : ∀ t j z X2, j + t = 2 ^ sG s → 0 < j → z < 1024 → ScM X1 X2 Y Y → X2 0 0 = X1 0 0 → Mw CM X2 Y s → NV X2 (Ms s) → bsI (fun S => ¬ cnB (Ms s) S) j z → hX9_small_13 Q r (nI z) (nI j) X2 Y := by
    intro t
    induction t with
    | zero =>
      intro j z X2 hj j0 hz1 sc2 e2 h2 n2 hz
      have ej : j = 2 ^ sG s := by omega
      apply hX9_small_13_i
      refine Q9_all h2 (cK1_mk ?_)
      simp (disch := omega) only [m_0, m_L0, m_lt, m_le, m_eq, m_neg, m_in, m_clamp, m_add, m_sub, m_pred, m_mul, m_l, m_i, m_Land, m_Lor, m_and, m_or, m_xor, m_Landn, m_andn, m_LshlP, m_shl, m_LbitP, m_bit, m_cmp0P, m_Lb0, m_Lb1, m_b0, m_b1, Nat.one_mul]
      refine ⟨fun _ => ?_, fun h => by omega⟩
      have kk := k X2 Y (rI (nI z)) ((s0.trans sc1).trans sc2) h2
      unfold aSmall at kk
      rw [e2, e1, up2_same, smallQ_eq (bsI_end (ej ▸ hz))] at kk
      exact kk ⟨rfl, rfl⟩
    | succ t ih =>
      intro j z X2 hj j0 hz1 sc2 e2 h2 n2 hz
      have hjT : j < 2 ^ sG s := by omega
      have c1 := cnt_le j
      have c2 := cnt_le z
      apply hX9_small_13_i
      refine Q9_all h2 (cK1_mk ?_)
      simp (disch := omega) only [m_0, m_L0, m_lt, m_le, m_eq, m_neg, m_in, m_clamp, m_add, m_sub, m_pred, m_mul, m_l, m_i, m_Land, m_Lor, m_and, m_or, m_xor, m_Landn, m_andn, m_LshlP, m_shl, m_LbitP, m_bit, m_cmp0P, m_Lb0, m_Lb1, m_b0, m_b1, Nat.one_mul]
      refine ⟨fun h => by omega, fun _ => ⟨fun h0 => Q9_canBe h2 n2 (by omega) (fun y X3 sc3 f3 h3 n3 hy => cK1_mk ⟨fun q => ?_, fun q => ?_⟩), fun h0 => bc32 (by omega) (cK1_mk (bc32 (by omega) (cK1_mk ?_)))⟩⟩
      · exact ih (j + 1) z X3 (by omega) (by omega) hz1 (sc2.trans sc3) (by rw [f3 0 (by omega)]; exact e2) h3 n3 (bsI_skip hz (fun g => absurd (hy.mp (z11 q)) g))
      · exact ih (j + 1) j X3 (by omega) (by omega) (by omega) (sc2.trans sc3) (by rw [f3 0 (by omega)]; exact e2) h3 n3 (bsI_take hz j0 (fun g => q (by rw [hy.mpr g]; decide)) (fun q => absurd h0 q))
      · simp (disch := omega) only [m_0, m_L0, m_lt, m_le, m_eq, m_neg, m_in, m_clamp, m_add, m_sub, m_pred, m_mul, m_l, m_i, m_Land, m_Lor, m_and, m_or, m_xor, m_Landn, m_andn, m_LshlP, m_shl, m_LbitP, m_bit, m_cmp0P, m_Lb0, m_Lb1, m_b0, m_b1, Nat.one_mul]
        refine ⟨fun hle => ih (j + 1) z X2 (by omega) (by omega) hz1 sc2 e2 h2 n2 (bsI_skip hz (fun _ => ⟨h0, hle⟩)), fun hle => Q9_canBe h2 n2 (by omega) (fun y X3 sc3 f3 h3 n3 hy => cK1_mk ⟨fun q => ?_, fun q => ?_⟩)⟩
        · exact ih (j + 1) z X3 (by omega) (by omega) hz1 (sc2.trans sc3) (by rw [f3 0 (by omega)]; exact e2) h3 n3 (bsI_skip hz (fun g => absurd (hy.mp (z11 q)) g))
        · exact ih (j + 1) j X3 (by omega) (by omega) (by omega) (sc2.trans sc3) (by rw [f3 0 (by omega)]; exact e2) h3 n3 (bsI_take hz j0 (fun g => q (by rw [hy.mpr g]; decide)) (fun _ => by omega))
  exact H _ 1 0 X1 (Nat.add_sub_cancel' (by omega : 1 ≤ 2 ^ sG s)) (by omega) (by omega) ScM.rfl rfl h1 n1 (Or.inl ⟨rfl, fun S hS hr => by
    have e : S = 0 := by omega
    have := small_4 (Ms_gm h.si) (by omega) (cut_w h.si (S := S) (by omega)).2 hr
    rw [e, cnt_0] at this; omega⟩)
end Sets9
