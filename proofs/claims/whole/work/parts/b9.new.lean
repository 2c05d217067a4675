/-! the constructors: what holds at first -/
def s00 : St := (0, 0, (fun _ => 0), (fun _ => 0), (fun _ => 0), (fun _ => 0), (fun _ => 0), (fun _ => false), (fun _ => -1), (fun _ => -1))
def t00 : Tp := (0, fun _ => 0)
def l00 : Ls := (0, fun _ => 0)
theorem s00_si : SI s00 := ⟨by decide, by decide, fun k hk => absurd hk (by show ¬ k < 0; omega), fun i _ => ⟨show (-1 : Int) ≤ -1 by decide, show (-1 : Int) ≤ 99 by decide, show (-1 : Int) ≤ -1 by decide, show (-1 : Int) ≤ 99 by decide⟩⟩
theorem l00_eo (i j : Nat) : ¬ Eo l00.2 i j := by
  intro h
  have : (0 : Nat).testBit j = true := h
  rw [Nat.zero_testBit] at this; exact absurd this (by decide)
theorem l00_bs (i : Nat) : ¬ lsS l00 i := by
  intro h
  have : (0 : Nat).testBit i = true := h
  rw [Nat.zero_testBit] at this; exact absurd this (by decide)
theorem l00_si : lsI l00 := ⟨by decide, fun i j h => absurd h (l00_eo i j), fun i j h => absurd h (l00_eo i j), fun _ => show (0 : Nat) < 1152921504606846976 by decide⟩
theorem l00_c : lsC l00 := fun T hT ⟨x, hx⟩ => absurd (hT x hx) (l00_bs x)
theorem l00_a : lsA l00 := fun a _ _ ha => absurd ha (l00_bs a)
theorem l00_g : lsG l00 = 0 := lsG_eq ⟨⟨fun _ => False, fun _ h => h.elim, fun _ _ h => h.elim, gSz_no (fun _ h => h)⟩, fun K hK _ => by rw [gSz_no (fun v hv => l00_bs v (hK v hv))]; exact Nat.le_refl _⟩
theorem l00_pr : lsPr l00 = 0 := by
  have : enD l00.2 = sumN (fun _ => 0) 60 := sumN_eq (fun k _ => cnt_0)
  unfold lsPr
  rw [this]
  have := sumN_bd (f := fun _ => 0) (B := 0) (n := 60) (fun _ _ => Nat.le_refl _)
  omega
theorem l00_lf {c : Nat} {X : HX} (h0 : X c 10 = nI 1) (h1 : X c 11 = nI 1) (h2 : X c 12 = nI 0) (h3 : X c 13 = nI 0) (h4 : X c 14 = nI 0) : LF c X l00 := by
  refine ⟨?_, ?_, ?_, ?_, h4⟩
  · rw [iB_y ⟨l00_c, l00_a⟩]; exact h0
  · rw [iB_y l00_c]; exact h1
  · rw [cif_y l00_c, l00_g]; exact h2
  · rw [l00_pr]; exact h3
theorem nw_mg {α : Type} {b n c : Nat} {X X2 : Nat → α} (hn : n = b + 1) : mg [b] n X X2 c = if c < b then X c else X2 (c - b) := by
  subst hn
  unfold mg
  by_cases q : c < b
  · rw [if_pos q, if_pos (by omega), if_neg]
    simp; omega
  · rw [if_neg q]
    by_cases e : c = b
    · subst e
      rw [if_pos (by omega), if_pos (by simp), Nat.sub_self]
      simp [List.idxOf_cons]
    · rw [if_neg (by omega)]
      show X2 (1 + (c - (b + 1))) = _
      congr 1; omega
theorem upR_same {α : Type} [OfNat α 0] {X : Nat → Nat → α} {n i : Nat} : upR X n n i = 0 := by simp [upR]
theorem upR_out {α : Type} [OfNat α 0] {X : Nat → Nat → α} {n c : Nat} (h : c ≠ n) : upR X n c = X c := by simp [upR, h]
section New
variable {X : HX} {Y : HY} {Q : Qt} {C : HX → HY → Prop} {b n : Nat} {L2 : Ly}
/-- behind a constructor: what was there stays -/
def NwF (b : Nat) (X X' : HX) (Y Y' : HY) : Prop := ∀ c, c < b → X' c = X c ∧ Y' c = Y c
theorem NwF.up (X3 : HX) (Y3 : HY) (hn : n = b + 1) : NwF b X (mg [b] n (upR X b) X3) Y (mg [b] n (upR Y b) Y3) := fun c hc => by
  rw [nw_mg hn, nw_mg hn, if_pos hc, if_pos hc, upR_out (by omega), upR_out (by omega)]; exact ⟨rfl, rfl⟩
theorem nw_at {α : Type} {X3 : Nat → α} {X : Nat → α} (hn : n = b + 1) (j : Nat) : mg [b] n X X3 (b + j) = X3 j := by
  rw [nw_mg hn, if_neg (by omega)]; congr 1; omega
theorem N7_s (hn : n = b + 1) (k : ∀ X' Y', NwF b X X' Y Y' → X' b 1 = nI 0 → C X' Y') : tX7_init [.ref 0] Wi73 (sb [b] (upR X b)) (sb [b] (upR Y b)) (cS0 Wi75 L2 [b] n (upR X b) (upR Y b) Q C) := by
  apply tX7_init_i
  refine cS0_mk (k _ _ (.up _ _ hn) ?_)
  have := nw_at (X := upR X b) (X3 := up2 (upR (sb [b] (upR X b)) 1) 0 1 (nI 0)) hn 0
  rw [Nat.add_zero] at this
  rw [this]; exact up2_same
theorem N5_s (hn : n = b + 1) (k : ∀ X' Y', NwF b X X' Y Y' → X' b 3 = nI 0 → C X' Y') : tX5_init [.ref 0] Wi54 (sb [b] (upR X b)) (sb [b] (upR Y b)) (cS0 Wi60 L2 [b] n (upR X b) (upR Y b) Q C) := by
  apply tX5_init_i
  refine ⟨(by first | exact Or.inl rfl | exact Or.inr rfl | exact Or.inl trivial | exact Or.inr trivial), cS0_mk (k _ _ (.up _ _ hn) ?_)⟩
  have := fun X3 : HX => nw_at (X := upR X b) (X3 := X3) hn 0
  rw [Nat.add_zero] at this
  rw [this, upR_out (by omega)]; exact up2_same
theorem N4_s (hn : n = b + 1) (k : ∀ X' Y', NwF b X X' Y Y' → X' b 2 = nI 10 → C X' Y') : tX4_init_10 [.ref 0, .int (nI 10)] Wi96 (sb [b] (upR X b)) (sb [b] (upR Y b)) (cS0 Wi97 L2 [b] n (upR X b) (upR Y b) Q C) := by
  apply tX4_init_10_i
  refine cS0_mk (k _ _ (.up _ _ hn) ?_)
  have := fun X3 : HX => nw_at (X := upR X b) (X3 := X3) hn 0
  rw [Nat.add_zero] at this
  rw [this, upR_out (by omega), upR_out (by omega), upR_out (by omega)]; exact up2_same
theorem N3_s (hn : n = b + 1) (k : ∀ X' Y', NwF b X X' Y Y' → X' b 4 = nI 0 → (∀ i, X' (b + 4) i = 0) → C X' Y') : tX3_init [.ref 0] Wi39 (sb [b] (upR X b)) (sb [b] (upR Y b)) (cS0 Wi53 L2 [b] n (upR X b) (upR Y b) Q C) := by
  apply tX3_init_i
  refine ⟨(by first | exact Or.inl rfl | exact Or.inr rfl | exact Or.inl trivial | exact Or.inr trivial), cS0_mk (k _ _ (.up _ _ hn) ?_ (fun i => ?_))⟩
  · have := fun X3 : HX => nw_at (X := upR X b) (X3 := X3) hn 0
    rw [Nat.add_zero] at this
    rw [this, upR_out (by omega), upR_out (by omega), upR_out (by omega), upR_out (by omega)]; exact up2_same
  · rw [nw_at hn 4, upR_out (by omega), upR_out (by omega), upR_out (by omega)]; exact upR_same
theorem N1_s (hn : n = b + 1) (k : ∀ X' Y', NwF b X X' Y Y' → X' b 6 = nI 0 → C X' Y') : tX1_init [.ref 0] Wi17 (sb [b] (upR X b)) (sb [b] (upR Y b)) (cS0 Wi37 L2 [b] n (upR X b) (upR Y b) Q C) := by
  apply tX1_init_i
  refine ⟨(by first | exact Or.inl rfl | exact Or.inr rfl | exact Or.inl trivial | exact Or.inr trivial), cS0_mk (k _ _ (.up _ _ hn) ?_)⟩
  have := fun X3 : HX => nw_at (X := upR X b) (X3 := X3) hn 0
  rw [Nat.add_zero] at this
  rw [this, up2_idx (by omega), upR_out (by omega), upR_out (by omega), upR_out (by omega), upR_out (by omega), upR_out (by omega)]; exact up2_same
theorem N2_s (hn : n = b + 1) (k : ∀ X' Y', NwF b X X' Y Y' → X' b 0 = nI 0 → C X' Y') : tX2_init [.ref 0] Wi38 (sb [b] (upR X b)) (sb [b] (upR Y b)) (cS0 Wi38 L2 [b] n (upR X b) (upR Y b) Q C) := by
  apply tX2_init_i
  refine ⟨(by first | exact Or.inl rfl | exact Or.inr rfl | exact Or.inl trivial | exact Or.inr trivial), cS0_mk (k _ _ (.up _ _ hn) ?_)⟩
  have := fun X3 : HX => nw_at (X := upR X b) (X3 := X3) hn 0
  rw [Nat.add_zero] at this
  rw [this, up2_idx (by omega), up2_idx (by omega), up2_idx (by omega)]; exact up2_same
theorem N0_go : ∀ m i X, 9 - i = m → i ≤ 9 → (∀ j, j < i → X 6 j = -1 ∧ X 7 j = -1) → (∀ X' : HX, (∀ c, c ≠ 6 → c ≠ 7 → X' c = X c) → (∀ j, j < 9 → X' 6 j = -1 ∧ X' 7 j = -1) → Q (.inl none) Wi16 X' Y) → hX0_init_102 Q (nI i) X Y := by
  intro m
  induction m with
  | zero =>
    intro i X em hi g k
    have e : i = 9 := by omega
    subst e
    apply hX0_init_102_i
    exact ⟨fun _ => k X (fun _ _ _ => rfl) g, fun q => absurd (by decide) q⟩
  | succ m ih =>
    intro i X em hi g k
    apply hX0_init_102_i
    rw [m_le (by omega) (by omega), m_clamp (show i < 2147483648 by omega), m_add i 1]
    refine ⟨fun q => absurd q (by omega), fun _ => ⟨(m_in (by omega)).mpr (by omega), (m_in (by omega)).mpr (by omega), ?_⟩⟩
    refine ih (i + 1) _ (by omega) (by omega) (fun j hj => ?_) (fun X' f f2 => k X' (fun c h6 h7 => by rw [f c h6 h7, up2_row h7, up2_row h6]) f2)
    by_cases e : j = i
    · subst e
      exact ⟨by rw [up2_out (by omega), up2_same], up2_same⟩
    · rw [up2_out (by omega), up2_idx e, up2_idx e, up2_out (by omega)]; exact g j (by omega)
theorem N0_s (hn : n = b + 1) (k : ∀ X' Y', NwF b X X' Y Y' → X' b 0 = nI 0 → X' b 1 = nI 0 → X' b 10 = nI 1 → X' b 11 = nI 1 → X' b 12 = nI 0 → X' b 13 = nI 0 → X' b 14 = nI 0 → (∀ j, j < 9 → X' (b + 6) j = -1 ∧ X' (b + 7) j = -1) → Y' b 2 = lN 0 → C X' Y') : tX0_init [.ref 0] Wi2 (sb [b] (upR X b)) (sb [b] (upR Y b)) (cS0 Wi16 L2 [b] n (upR X b) (upR Y b) Q C) := by
  apply tX0_init_i
  refine N0_go _ 0 _ rfl (by omega) (fun j hj => absurd hj (by omega)) (fun X3 f g => cS0_mk ?_)
  have a0 : ∀ i, mg [b] n (upR X b) X3 b i = X3 0 i := fun i => by
    have := nw_at (X := upR X b) (X3 := X3) hn 0
    rw [Nat.add_zero] at this
    rw [this]
  have c0 : ∀ i, X3 0 i = _ := fun i => by rw [f 0 (by omega) (by omega)]
  refine k _ _ (.up _ _ hn) ?_ ?_ ?_ ?_ ?_ ?_ ?_ (fun j hj => ?_) ?_
  · rw [a0, c0]; simp [up2, upR]
  · rw [a0, c0]; simp [up2, upR]
  · rw [a0, c0]; simp [up2]
  · rw [a0, c0]; simp [up2]
  · rw [a0, c0]; simp [up2]
  · rw [a0, c0]; simp [up2]
  · rw [a0, c0]; simp [up2]
  · rw [nw_at hn 6, nw_at hn 7]; exact g j hj
  · have := fun X3 : HY => nw_at (X := upR Y b) (X3 := X3) hn 0
    rw [Nat.add_zero] at this
    rw [this]; simp [up2, upR]
theorem N6_s (k : ∀ X' Y', NwF 3 X X' Y Y' → C X' Y') : tX6_init [.ref 0, .ref 1] Wi61 (sb [3, 1, 2] (upR X 3)) (sb [3, 1, 2] (upR Y 3)) (cS0 Wi72 L2 [3, 1, 2] 4 (upR X 3) (upR Y 3) Q C) := by
  apply tX6_init_i
  refine cS0_mk (k _ _ (fun c hc => ?_))
  have h3 : c = 0 ∨ c = 1 ∨ c = 2 := by omega
  rcases h3 with rfl | rfl | rfl <;> exact ⟨rfl, rfl⟩
end New
