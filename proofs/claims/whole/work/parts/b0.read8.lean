/-! a LINE and a text: the common reading; the class' Reader -/
noncomputable def zsn (t : Tp) (b : Nat) : Nat := zen zBl t (znx t b)
/-- the thing at b is a guest's number; .. how sure -/
def zGs (t : Tp) (G b : Nat) : Prop := zth t b = 2 ∧ ¬ zva t b < 0 ∧ ¬ nI G ≤ zva t b
def zSu (t : Tp) (b : Nat) : Prop := zth t b = 2 ∧ ¬ zva t b < nI 1 ∧ zva t b ≤ nI 99
noncomputable def lnC {α : Type} (t : Tp) (b : Nat) (w f s te : Int32) (bad : Nat → α) (good : Nat → Int32 → Int32 → Int32 → Int32 → Int32 → α) : α :=
  cif (zth t b = 1 ∧ zva t b = nI 5) (cif (zSu t (zsn t b)) (good (zsn t (zsn t b)) w f s te (zva t (zsn t b))) (bad (zsn t b))) (good b w f s te (nI 50))
noncomputable def lnB {α : Type} (t : Tp) (G b : Nat) (w f s : Int32) (bad : Nat → α) (good : Nat → Int32 → Int32 → Int32 → Int32 → Int32 → α) : α :=
  cif (zth t b = 1 ∧ zva t b = nI 4) (cif (zGs t G (zsn t b)) (lnC t (zsn t (zsn t b)) w f s (zva t (zsn t b)) bad good) (bad (zsn t b))) (lnC t b w f s (-1) bad good)
/-- a LINE that begins at b -/
noncomputable def lnK {α : Type} (t : Tp) (G b : Nat) (bad : Nat → α) (good : Nat → Int32 → Int32 → Int32 → Int32 → Int32 → α) : α :=
  cif (zth t b = 1 ∧ zva t b ≤ nI 3) (cif (zGs t G (zsn t b)) (cif (zGs t G (zsn t (zsn t b)) ∧ zva t (zsn t (zsn t b)) ≠ zva t (zsn t b)) (lnB t G (zsn t (zsn t (zsn t b))) (zva t b) (zva t (zsn t b)) (zva t (zsn t (zsn t b))) bad good) (bad (zsn t (zsn t b)))) (bad (zsn t b))) (bad b)
/-- the lines so far and one more -/
def lnA (D : Nat → Nat → Int32) (n : Nat) (w f s te su : Int32) : Nat → Nat → Int32 := fun k j => if k = n then (if j = 0 then w else if j = 1 then f else if j = 2 then s else if j = 3 then te else su) else D k j
noncomputable def rdK {α : Type} (t : Tp) (G : Nat) (bad : Nat → α) (good : Nat → (Nat → Nat → Int32) → α) : Nat → Nat → Nat → (Nat → Nat → Int32) → α
  | 0, b, _, _ => bad b
  | m + 1, b, n, D => lnK t G b bad (fun b' w f s te su => cif (zth t b' = 0) (good (n + 1) (lnA D n w f s te su)) (cif (zth t b' = 3) (rdK t G bad good m (zsn t b') (n + 1) (lnA D n w f s te su)) (bad b')))
/-- a text -/
noncomputable def txK {α : Type} (t : Tp) (G : Nat) (bad : Nat → α) (good : Nat → (Nat → Nat → Int32) → α) : α :=
  cif (zth t (zen zBl t 0) = 0) (good 0 (fun _ _ => 0)) (rdK t G bad good 400 (zen zBl t 0) 0 (fun _ _ => 0))
section Bnd
variable {t : Tp} {b : Nat}
theorem zth_lt : zth t b < 5 := by
  unfold zth
  by_cases q1 : t.1 ≤ b
  · rw [cif_y q1]; omega
  rw [cif_n q1]
  by_cases q2 : zLt (zsg t b)
  · rw [cif_y q2]; omega
  rw [cif_n q2]
  by_cases q3 : zDg (zsg t b)
  · rw [cif_y q3]; omega
  rw [cif_n q3]
  by_cases q4 : zsg t b = 59
  · rw [cif_y q4]; omega
  · rw [cif_n q4]; omega
theorem znx_le (h : b ≤ t.1) : znx t b ≤ t.1 := by
  unfold znx
  by_cases q1 : t.1 ≤ b
  · rw [cif_y q1]; omega
  rw [cif_n q1]
  by_cases q2 : zLt (zsg t b)
  · rw [cif_y q2]; exact (zen_sp zLt6 _ b rfl).2.1 h
  rw [cif_n q2]
  by_cases q3 : zDg (zsg t b)
  · rw [cif_y q3]; exact (zen_sp zDg6 _ b rfl).2.1 h
  · rw [cif_n q3]; omega
theorem zsn_le (h : b ≤ t.1) : zsn t b ≤ t.1 := (zen_sp zBl6 _ _ rfl).2.1 (znx_le h)
end Bnd
/-- the Reader has n lines and stands at b -/
def Rd6 (t : Tp) (G b n : Nat) (D : Nat → Nat → Int32) (X : HX) : Prop := TV6 X t ∧ At6 t b X ∧ X 0 7 = nI G ∧ X 0 5 = nI n ∧ b ≤ t.1 ∧ ∀ k, k < n → k < 40 → X 1 k = D k 0 ∧ X 2 k = D k 1 ∧ X 3 k = D k 2 ∧ X 4 k = D k 3 ∧ X 5 k = D k 4
def Kq6 (X X' : HX) (Y Y' : HY) : Prop := ∀ c, c < 8 → (c = 6 ∨ c = 7 → X' c = X c) ∧ Y' c = Y c
theorem Kq6.rfl {X : HX} {Y : HY} : Kq6 X X Y Y := fun _ _ => ⟨fun _ => Eq.refl _, Eq.refl _⟩
theorem Kq6.trans {X X1 X2 : HX} {Y Y1 Y2 : HY} (h : Kq6 X X1 Y Y1) (k : Kq6 X1 X2 Y1 Y2) : Kq6 X X2 Y Y2 := fun c hc => ⟨fun hd => ((k c hc).1 hd).trans ((h c hc).1 hd), (k c hc).2.trans (h c hc).2⟩
theorem Kq6.of {X X' : HX} {Y Y' : HY} (h : Kp6 X X' Y Y') : Kq6 X X' Y Y' := fun c hc => ⟨fun hd => (h.1 c hc).1 (by omega), (h.1 c hc).2⟩
section Read6
variable {t : Tp} {X X' : HX} {Y Y' : HY} {Q : Qt} {b n G : Nat} {D : Nat → Nat → Int32}
theorem Rd6.kp {b' : Nat} (h : Rd6 t G b n D X) (k : Kp6 X X' Y Y') (a : At6 t b' X') (hb : b' ≤ t.1) : Rd6 t G b' n D X' := by
  obtain ⟨h1, h2, h3, h4, h5, h6⟩ := h
  have e : ∀ c, c < 8 → c ≠ 0 → X' c = X c := fun c hc hd => (k.1 c hc).1 hd
  refine ⟨h1.eq (e 6 (by omega) (by omega)) (e 7 (by omega) (by omega)), a, by rw [k.2 7 (by omega)]; exact h3, by rw [k.2 5 (by omega)]; exact h4, hb, ?_⟩
  rw [e 1 (by omega) (by omega), e 2 (by omega) (by omega), e 3 (by omega) (by omega), e 4 (by omega) (by omega), e 5 (by omega) (by omega)]
  exact h6
theorem R6_step (h : Rd6 t G b n D X) {C : HX → HY → Prop} (k : ∀ X' Y', Kq6 X X' Y Y' → Rd6 t G (zsn t b) n D X' → C X' Y') : tX6_step [.ref 0] (LX6 ++ []) X Y (cK0 (LX6 ++ []) Q C) :=
  X6_step_s h.1 (znx_le h.2.2.2.2.1) h.2.1.2.1 (fun X2 Y2 k2 a2 => cK0_mk (k X2 Y2 (Kq6.of k2) (h.kp k2 a2 (zsn_le h.2.2.2.2.1))))
theorem R6_isGuest (h : Rd6 t G b n D X) {C : Int32 → HX → HY → Prop} (k1 : zGs t G b → C (nI 1) X Y) (k0 : ¬ zGs t G b → C (nI 0) X Y) : tX6_isGuest [.ref 0] (LX6 ++ []) X Y (cK1 (LX6 ++ []) Q C) := by
  obtain ⟨h1, ⟨a1, a2, a3, a4⟩, h3, h4, h5, h6⟩ := h
  have z5 := zth_lt (t := t) (b := b)
  apply tX6_isGuest_i
  rw [a3, a4, h3, m_eq (by omega) (by omega)]
  refine ⟨fun q => ⟨(by first | exact Or.inl rfl | exact Or.inr rfl | exact Or.inl trivial | exact Or.inr trivial), cK1_mk (k0 (fun w => q w.1))⟩, fun q => ⟨fun q2 => ⟨(by first | exact Or.inl rfl | exact Or.inr rfl | exact Or.inl trivial | exact Or.inr trivial), cK1_mk (k0 (fun w => w.2.1 q2))⟩, fun q2 => ⟨fun q3 => ⟨(by first | exact Or.inl rfl | exact Or.inr rfl | exact Or.inl trivial | exact Or.inr trivial), cK1_mk (k0 (fun w => w.2.2 q3))⟩, fun q3 => ⟨(by first | exact Or.inl rfl | exact Or.inr rfl | exact Or.inl trivial | exact Or.inr trivial), cK1_mk (k1 ⟨by omega, q2, q3⟩)⟩⟩⟩⟩
theorem R6_keep {w f s te su : Int32} (hn : n ≤ 500) (h : Rd6 t G b n D X) {C : HX → HY → Prop} (k : ∀ X', Kq6 X X' Y Y → Rd6 t G b (n + 1) (lnA D n w f s te su) X' → C X' Y) : tX6_keep [.ref 0, .int w, .int f, .int s, .int te, .int su] (LX6 ++ []) X Y (cK0 (LX6 ++ []) Q C) := by
  obtain ⟨h1, h2, h3, h4, h5, h6⟩ := h
  apply tX6_keep_i
  have old : ∀ k, k < n → ∀ j, lnA D n w f s te su k j = D k j := fun k hk j => if_neg (by omega)
  refine ⟨fun q => ?_, fun q => ?_⟩
  · rw [h4, m_le (by omega) (by omega)] at q
    refine cK0_mk (k _ (fun c hc => ⟨fun hd => up2_row (by omega), rfl⟩) ⟨h1.eq (up2_row (by omega)) (up2_row (by omega)), ?_, ?_, ?_, h5, fun i hi h40 => ?_⟩)
    · exact ⟨(up2_idx (by omega)).trans h2.1, (up2_idx (by omega)).trans h2.2.1, (up2_idx (by omega)).trans h2.2.2.1, (up2_idx (by omega)).trans h2.2.2.2⟩
    · exact (up2_idx (by omega)).trans h3
    · rw [up2_same, h4, m_add]
    · have hk : i < n := by omega
      rw [up2_out (by omega), up2_out (by omega), up2_out (by omega), up2_out (by omega), up2_out (by omega), old i hk, old i hk, old i hk, old i hk, old i hk]
      exact h6 i hk h40
  · simp (disch := omega) only [up2_out, h4, m_clamp, m_in, m_add]
    rw [h4, m_le (by omega) (by omega)] at q
    have h40 : n < 40 := by omega
    refine ⟨h40, h40, h40, h40, h40, cK0_mk (k _ (fun c hc => ⟨fun hd => ?_, rfl⟩) ⟨h1.eq ?_ ?_, ?_, ?_, up2_same, h5, fun i hi _ => ?_⟩)⟩
    · rw [up2_row (by omega), up2_row (by omega), up2_row (by omega), up2_row (by omega), up2_row (by omega), up2_row (by omega)]
    · rw [up2_row (by omega), up2_row (by omega), up2_row (by omega), up2_row (by omega), up2_row (by omega), up2_row (by omega)]
    · rw [up2_row (by omega), up2_row (by omega), up2_row (by omega), up2_row (by omega), up2_row (by omega), up2_row (by omega)]
    · have e : ∀ i, i ≠ 5 → up2 (up2 (up2 (up2 (up2 (up2 X 1 n w) 2 n f) 3 n s) 4 n te) 5 n su) 0 5 (nI (n + 1)) 0 i = X 0 i := fun i hi => by rw [up2_idx hi, up2_out (by omega), up2_out (by omega), up2_out (by omega), up2_out (by omega), up2_out (by omega)]
      exact ⟨(e 9 (by omega)).trans h2.1, (e 8 (by omega)).trans h2.2.1, (e 10 (by omega)).trans h2.2.2.1, (e 11 (by omega)).trans h2.2.2.2⟩
    · rw [up2_idx (by omega), up2_out (by omega), up2_out (by omega), up2_out (by omega), up2_out (by omega), up2_out (by omega)]; exact h3
    · simp (disch := omega) only [up2_out, up2_at]
      by_cases e : i = n
      · subst e
        refine ⟨?_, ?_, ?_, ?_, ?_⟩ <;> simp [lnA]
      · have hk : i < n := by omega
        rw [if_neg e, if_neg e, if_neg e, if_neg e, if_neg e, old i hk, old i hk, old i hk, old i hk, old i hk]
        exact h6 i hk (by omega)
/-- what a LINE's reading may do -/
def RLk (t : Tp) (G n : Nat) (D : Nat → Nat → Int32) (X : HX) (Y : HY) (Q : Qt) (PB : Nat → Prop) (PG : Nat → Int32 → Int32 → Int32 → Int32 → Int32 → Prop) : Prop :=
  (∀ X' Y' b', Kq6 X X' Y Y' → Rd6 t G b' n D X' → PB b' → Q (.inl (some (.int (nI 0)))) (LX6 ++ []) X' Y') ∧ (∀ X' Y' b' w f s te su, Kq6 X X' Y Y' → Rd6 t G b' (n + 1) (lnA D n w f s te su) X' → PG b' w f s te su → Q (.inl (some (.int (nI 1)))) (LX6 ++ []) X' Y')
theorem RLk.to {PB : Nat → Prop} {PG : Nat → Int32 → Int32 → Int32 → Int32 → Int32 → Prop} (h : RLk t G n D X Y Q PB PG) (k : Kq6 X X' Y Y') : RLk t G n D X' Y' Q PB PG := ⟨fun X2 Y2 b2 k2 => h.1 X2 Y2 b2 (k.trans k2), fun X2 Y2 b2 w f s te su k2 => h.2 X2 Y2 b2 w f s te su (k.trans k2)⟩
def suT (Q : Qt) (w f s te : Int32) (X : HX) (Y : HY) : Prop := (¬ (X 0 10) = (nI 1) → tX6_keep [.ref 0, .int w, .int f, .int s, .int te, .int (nI 50)] (LX6 ++ []) X Y (cK0 (LX6 ++ []) Q (fun X38 Y38 => ((nI 1) = 0 ∨ (nI 1) = 1) ∧ Q (.inl (some (.int (nI 1)))) (LX6 ++ []) X38 Y38))) ∧ (¬ (¬ (X 0 10) = (nI 1)) → (¬ (X 0 11) = (nI 5) → tX6_keep [.ref 0, .int w, .int f, .int s, .int te, .int (nI 50)] (LX6 ++ []) X Y (cK0 (LX6 ++ []) Q (fun X40 Y40 => ((nI 1) = 0 ∨ (nI 1) = 1) ∧ Q (.inl (some (.int (nI 1)))) (LX6 ++ []) X40 Y40))) ∧ (¬ (¬ (X 0 11) = (nI 5)) → tX6_step [.ref 0] (LX6 ++ []) X Y (cK0 (LX6 ++ []) Q (fun X41 Y41 => (¬ (X41 0 10) = (nI 2) → ((nI 0) = 0 ∨ (nI 0) = 1) ∧ Q (.inl (some (.int (nI 0)))) (LX6 ++ []) X41 Y41) ∧ (¬ (¬ (X41 0 10) = (nI 2)) → ((X41 0 11) < (nI 1) → ((nI 0) = 0 ∨ (nI 0) = 1) ∧ Q (.inl (some (.int (nI 0)))) (LX6 ++ []) X41 Y41) ∧ (¬ ((X41 0 11) < (nI 1)) → ((X41 0 11) ≤ (nI 99) → tX6_step [.ref 0] (LX6 ++ []) X41 Y41 (cK0 (LX6 ++ []) Q (fun X45 Y45 => tX6_keep [.ref 0, .int w, .int f, .int s, .int te, .int (X41 0 11)] (LX6 ++ []) X45 Y45 (cK0 (LX6 ++ []) Q (fun X46 Y46 => ((nI 1) = 0 ∨ (nI 1) = 1) ∧ Q (.inl (some (.int (nI 1)))) (LX6 ++ []) X46 Y46))))) ∧ (¬ ((X41 0 11) ≤ (nI 99)) → ((nI 0) = 0 ∨ (nI 0) = 1) ∧ Q (.inl (some (.int (nI 0)))) (LX6 ++ []) X41 Y41)))))))
def byT (Q : Qt) (w f s : Int32) (X : HX) (Y : HY) : Prop := (¬ (X 0 10) = (nI 1) → (¬ (X 0 10) = (nI 1) → tX6_keep [.ref 0, .int w, .int f, .int s, .int (-1), .int (nI 50)] (LX6 ++ []) X Y (cK0 (LX6 ++ []) Q (fun X13 Y13 => ((nI 1) = 0 ∨ (nI 1) = 1) ∧ Q (.inl (some (.int (nI 1)))) (LX6 ++ []) X13 Y13))) ∧ (¬ (¬ (X 0 10) = (nI 1)) → (¬ (X 0 11) = (nI 5) → tX6_keep [.ref 0, .int w, .int f, .int s, .int (-1), .int (nI 50)] (LX6 ++ []) X Y (cK0 (LX6 ++ []) Q (fun X15 Y15 => ((nI 1) = 0 ∨ (nI 1) = 1) ∧ Q (.inl (some (.int (nI 1)))) (LX6 ++ []) X15 Y15))) ∧ (¬ (¬ (X 0 11) = (nI 5)) → tX6_step [.ref 0] (LX6 ++ []) X Y (cK0 (LX6 ++ []) Q (fun X16 Y16 => (¬ (X16 0 10) = (nI 2) → ((nI 0) = 0 ∨ (nI 0) = 1) ∧ Q (.inl (some (.int (nI 0)))) (LX6 ++ []) X16 Y16) ∧ (¬ (¬ (X16 0 10) = (nI 2)) → ((X16 0 11) < (nI 1) → ((nI 0) = 0 ∨ (nI 0) = 1) ∧ Q (.inl (some (.int (nI 0)))) (LX6 ++ []) X16 Y16) ∧ (¬ ((X16 0 11) < (nI 1)) → ((X16 0 11) ≤ (nI 99) → tX6_step [.ref 0] (LX6 ++ []) X16 Y16 (cK0 (LX6 ++ []) Q (fun X20 Y20 => tX6_keep [.ref 0, .int w, .int f, .int s, .int (-1), .int (X16 0 11)] (LX6 ++ []) X20 Y20 (cK0 (LX6 ++ []) Q (fun X21 Y21 => ((nI 1) = 0 ∨ (nI 1) = 1) ∧ Q (.inl (some (.int (nI 1)))) (LX6 ++ []) X21 Y21))))) ∧ (¬ ((X16 0 11) ≤ (nI 99)) → ((nI 0) = 0 ∨ (nI 0) = 1) ∧ Q (.inl (some (.int (nI 0)))) (LX6 ++ []) X16 Y16)))))))) ∧ (¬ (¬ (X 0 10) = (nI 1)) → (¬ (X 0 11) = (nI 4) → (¬ (X 0 10) = (nI 1) → tX6_keep [.ref 0, .int w, .int f, .int s, .int (-1), .int (nI 50)] (LX6 ++ []) X Y (cK0 (LX6 ++ []) Q (fun X24 Y24 => ((nI 1) = 0 ∨ (nI 1) = 1) ∧ Q (.inl (some (.int (nI 1)))) (LX6 ++ []) X24 Y24))) ∧ (¬ (¬ (X 0 10) = (nI 1)) → (¬ (X 0 11) = (nI 5) → tX6_keep [.ref 0, .int w, .int f, .int s, .int (-1), .int (nI 50)] (LX6 ++ []) X Y (cK0 (LX6 ++ []) Q (fun X26 Y26 => ((nI 1) = 0 ∨ (nI 1) = 1) ∧ Q (.inl (some (.int (nI 1)))) (LX6 ++ []) X26 Y26))) ∧ (¬ (¬ (X 0 11) = (nI 5)) → tX6_step [.ref 0] (LX6 ++ []) X Y (cK0 (LX6 ++ []) Q (fun X27 Y27 => (¬ (X27 0 10) = (nI 2) → ((nI 0) = 0 ∨ (nI 0) = 1) ∧ Q (.inl (some (.int (nI 0)))) (LX6 ++ []) X27 Y27) ∧ (¬ (¬ (X27 0 10) = (nI 2)) → ((X27 0 11) < (nI 1) → ((nI 0) = 0 ∨ (nI 0) = 1) ∧ Q (.inl (some (.int (nI 0)))) (LX6 ++ []) X27 Y27) ∧ (¬ ((X27 0 11) < (nI 1)) → ((X27 0 11) ≤ (nI 99) → tX6_step [.ref 0] (LX6 ++ []) X27 Y27 (cK0 (LX6 ++ []) Q (fun X31 Y31 => tX6_keep [.ref 0, .int w, .int f, .int s, .int (-1), .int (X27 0 11)] (LX6 ++ []) X31 Y31 (cK0 (LX6 ++ []) Q (fun X32 Y32 => ((nI 1) = 0 ∨ (nI 1) = 1) ∧ Q (.inl (some (.int (nI 1)))) (LX6 ++ []) X32 Y32))))) ∧ (¬ ((X27 0 11) ≤ (nI 99)) → ((nI 0) = 0 ∨ (nI 0) = 1) ∧ Q (.inl (some (.int (nI 0)))) (LX6 ++ []) X27 Y27)))))))) ∧ (¬ (¬ (X 0 11) = (nI 4)) → tX6_step [.ref 0] (LX6 ++ []) X Y (cK0 (LX6 ++ []) Q (fun X33 Y33 => tX6_isGuest [.ref 0] (LX6 ++ []) X33 Y33 (cK1 (LX6 ++ []) Q (fun x34 X34 Y34 => (¬ x34 = 0 → tX6_step [.ref 0] (LX6 ++ []) X34 Y34 (cK0 (LX6 ++ []) Q (fun X36 Y36 => (¬ (X36 0 10) = (nI 1) → tX6_keep [.ref 0, .int w, .int f, .int s, .int (X34 0 11), .int (nI 50)] (LX6 ++ []) X36 Y36 (cK0 (LX6 ++ []) Q (fun X38 Y38 => ((nI 1) = 0 ∨ (nI 1) = 1) ∧ Q (.inl (some (.int (nI 1)))) (LX6 ++ []) X38 Y38))) ∧ (¬ (¬ (X36 0 10) = (nI 1)) → (¬ (X36 0 11) = (nI 5) → tX6_keep [.ref 0, .int w, .int f, .int s, .int (X34 0 11), .int (nI 50)] (LX6 ++ []) X36 Y36 (cK0 (LX6 ++ []) Q (fun X40 Y40 => ((nI 1) = 0 ∨ (nI 1) = 1) ∧ Q (.inl (some (.int (nI 1)))) (LX6 ++ []) X40 Y40))) ∧ (¬ (¬ (X36 0 11) = (nI 5)) → tX6_step [.ref 0] (LX6 ++ []) X36 Y36 (cK0 (LX6 ++ []) Q (fun X41 Y41 => (¬ (X41 0 10) = (nI 2) → ((nI 0) = 0 ∨ (nI 0) = 1) ∧ Q (.inl (some (.int (nI 0)))) (LX6 ++ []) X41 Y41) ∧ (¬ (¬ (X41 0 10) = (nI 2)) → ((X41 0 11) < (nI 1) → ((nI 0) = 0 ∨ (nI 0) = 1) ∧ Q (.inl (some (.int (nI 0)))) (LX6 ++ []) X41 Y41) ∧ (¬ ((X41 0 11) < (nI 1)) → ((X41 0 11) ≤ (nI 99) → tX6_step [.ref 0] (LX6 ++ []) X41 Y41 (cK0 (LX6 ++ []) Q (fun X45 Y45 => tX6_keep [.ref 0, .int w, .int f, .int s, .int (X34 0 11), .int (X41 0 11)] (LX6 ++ []) X45 Y45 (cK0 (LX6 ++ []) Q (fun X46 Y46 => ((nI 1) = 0 ∨ (nI 1) = 1) ∧ Q (.inl (some (.int (nI 1)))) (LX6 ++ []) X46 Y46))))) ∧ (¬ ((X41 0 11) ≤ (nI 99)) → ((nI 0) = 0 ∨ (nI 0) = 1) ∧ Q (.inl (some (.int (nI 0)))) (LX6 ++ []) X41 Y41)))))))))) ∧ (¬ (¬ x34 = 0) → ((nI 0) = 0 ∨ (nI 0) = 1) ∧ Q (.inl (some (.int (nI 0)))) (LX6 ++ []) X34 Y34)))))))
theorem suT_s {w f s te : Int32} {PB : Nat → Prop} {PG : Nat → Int32 → Int32 → Int32 → Int32 → Int32 → Prop} (hn : n ≤ 500) (h : Rd6 t G b n D X) (k : RLk t G n D X Y Q PB PG) (hp : lnC t b w f s te PB PG) : suT Q w f s te X Y := by
  unfold suT
  have z5 := zth_lt (t := t) (b := b)
  rw [h.2.1.2.2.1, h.2.1.2.2.2, m_eq (by omega) (by omega)]
  have plain : ¬ (zth t b = 1 ∧ zva t b = nI 5) → tX6_keep [.ref 0, .int w, .int f, .int s, .int te, .int (nI 50)] (LX6 ++ []) X Y (cK0 (LX6 ++ []) Q (fun X3 Y3 => ((nI 1) = 0 ∨ (nI 1) = 1) ∧ Q (.inl (some (.int (nI 1)))) (LX6 ++ []) X3 Y3)) := fun no =>
    R6_keep hn h (fun X2 k2 h2 => ⟨(by first | exact Or.inl rfl | exact Or.inr rfl | exact Or.inl trivial | exact Or.inr trivial), k.2 X2 Y b w f s te (nI 50) k2 h2 (by rw [show lnC t b w f s te PB PG = PG b w f s te (nI 50) from cif_n no] at hp; exact hp)⟩)
  refine ⟨fun q => plain (fun w => q w.1), fun q => ⟨fun q2 => plain (fun w => q2 w.2), fun q2 => ?_⟩⟩
  have yes : zth t b = 1 ∧ zva t b = nI 5 := ⟨by omega, Classical.not_not.mp q2⟩
  refine R6_step h (fun X2 Y2 k2 h2 => ?_)
  have z6 := zth_lt (t := t) (b := zsn t b)
  rw [h2.2.1.2.2.1, h2.2.1.2.2.2, m_eq (by omega) (by omega)]
  have bad : ¬ zSu t (zsn t b) → PB (zsn t b) := fun no => by
    rw [show lnC t b w f s te PB PG = PB (zsn t b) from (cif_y yes).trans (cif_n no)] at hp; exact hp
  refine ⟨fun r1 => ⟨(by first | exact Or.inl rfl | exact Or.inr rfl | exact Or.inl trivial | exact Or.inr trivial), k.1 X2 Y2 _ k2 h2 (bad (fun w => r1 w.1))⟩, fun r1 => ⟨fun r2 => ⟨(by first | exact Or.inl rfl | exact Or.inr rfl | exact Or.inl trivial | exact Or.inr trivial), k.1 X2 Y2 _ k2 h2 (bad (fun w => w.2.1 r2))⟩, fun r2 => ⟨fun r3 => ?_, fun r3 => ⟨(by first | exact Or.inl rfl | exact Or.inr rfl | exact Or.inl trivial | exact Or.inr trivial), k.1 X2 Y2 _ k2 h2 (bad (fun w => r3 w.2.2))⟩⟩⟩⟩
  have ok : zSu t (zsn t b) := ⟨by omega, r2, r3⟩
  rw [show lnC t b w f s te PB PG = PG (zsn t (zsn t b)) w f s te (zva t (zsn t b)) from (cif_y yes).trans (cif_y ok)] at hp
  exact R6_step h2 (fun X3 Y3 k3 h3 => R6_keep hn h3 (fun X4 k4 h4 => ⟨(by first | exact Or.inl rfl | exact Or.inr rfl | exact Or.inl trivial | exact Or.inr trivial), k.2 X4 Y3 _ w f s te _ ((k2.trans k3).trans k4) h4 hp⟩))
theorem byT_s {w f s : Int32} {PB : Nat → Prop} {PG : Nat → Int32 → Int32 → Int32 → Int32 → Int32 → Prop} (hn : n ≤ 500) (h : Rd6 t G b n D X) (k : RLk t G n D X Y Q PB PG) (hp : lnB t G b w f s PB PG) : byT Q w f s X Y := by
  unfold byT
  have z5 := zth_lt (t := t) (b := b)
  have no : ¬ (zth t b = 1 ∧ zva t b = nI 4) → suT Q w f s (-1) X Y := fun no => by
    rw [show lnB t G b w f s PB PG = lnC t b w f s (-1) PB PG from cif_n no] at hp
    exact suT_s hn h k hp
  refine ⟨fun q => ?_, fun q => ⟨fun q2 => ?_, fun q2 => ?_⟩⟩
  · exact no (fun w => q (by rw [h.2.1.2.2.1, w.1]))
  · exact no (fun w => q2 (by rw [h.2.1.2.2.2, w.2]))
  · rw [h.2.1.2.2.1, m_eq (by omega) (by omega)] at q
    rw [h.2.1.2.2.2] at q2
    have yes : zth t b = 1 ∧ zva t b = nI 4 := ⟨by omega, Classical.not_not.mp q2⟩
    refine R6_step h (fun X2 Y2 k2 h2 => R6_isGuest h2 (fun g => ⟨fun _ => ?_, fun q => absurd n1_0 q⟩) (fun g => ⟨fun q => absurd rfl q, fun _ => ⟨(by first | exact Or.inl rfl | exact Or.inr rfl | exact Or.inl trivial | exact Or.inr trivial), k.1 X2 Y2 _ k2 h2 (by rw [show lnB t G b w f s PB PG = PB (zsn t b) from (cif_y yes).trans (cif_n g)] at hp; exact hp)⟩⟩))
    rw [show lnB t G b w f s PB PG = lnC t (zsn t (zsn t b)) w f s (zva t (zsn t b)) PB PG from (cif_y yes).trans (cif_y g)] at hp
    refine R6_step h2 (fun X3 Y3 k3 h3 => ?_)
    have := suT_s hn h3 (k.to (k2.trans k3)) hp
    rw [← h2.2.1.2.2.2] at this
    exact this
theorem R6_readLine {PB : Nat → Prop} {PG : Nat → Int32 → Int32 → Int32 → Int32 → Int32 → Prop} (hn : n ≤ 500) (h : Rd6 t G b n D X) (k : RLk t G n D X Y Q PB PG) (hp : lnK t G b PB PG) : tX6_readLine [.ref 0] (LX6 ++ []) X Y Q := by
  have z5 := zth_lt (t := t) (b := b)
  apply tX6_readLine_i
  have bad : ¬ (zth t b = 1 ∧ zva t b ≤ nI 3) → Q (.inl (some (.int (nI 0)))) (LX6 ++ []) X Y := fun no => by
    rw [show lnK t G b PB PG = PB b from cif_n no] at hp
    exact k.1 X Y b Kq6.rfl h hp
  rw [h.2.1.2.2.1, h.2.1.2.2.2, m_eq (by omega) (by omega)]
  refine ⟨fun q => ⟨(by first | exact Or.inl rfl | exact Or.inr rfl | exact Or.inl trivial | exact Or.inr trivial), bad (fun w => q w.1)⟩, fun q => ⟨fun q2 => ?_, fun q2 => ⟨(by first | exact Or.inl rfl | exact Or.inr rfl | exact Or.inl trivial | exact Or.inr trivial), bad (fun w => q2 w.2)⟩⟩⟩
  have yes : zth t b = 1 ∧ zva t b ≤ nI 3 := ⟨by omega, q2⟩
  refine R6_step h (fun X2 Y2 k2 h2 => R6_isGuest h2 (fun g => ⟨fun _ => ?_, fun q => absurd n1_0 q⟩) (fun g => ⟨fun q => absurd rfl q, fun _ => ⟨(by first | exact Or.inl rfl | exact Or.inr rfl | exact Or.inl trivial | exact Or.inr trivial), k.1 X2 Y2 _ k2 h2 (by rw [show lnK t G b PB PG = PB (zsn t b) from (cif_y yes).trans (cif_n g)] at hp; exact hp)⟩⟩))
  refine R6_step h2 (fun X3 Y3 k3 h3 => ?_)
  have k23 := k2.trans k3
  have bad2 : ¬ (zGs t G (zsn t (zsn t b)) ∧ zva t (zsn t (zsn t b)) ≠ zva t (zsn t b)) → Q (.inl (some (.int (nI 0)))) (LX6 ++ []) X3 Y3 := fun no => by
    rw [show lnK t G b PB PG = PB (zsn t (zsn t b)) from (cif_y yes).trans ((cif_y g).trans (cif_n no))] at hp
    exact k.1 X3 Y3 _ k23 h3 hp
  refine R6_isGuest h3 (fun g2 => ⟨fun q => absurd q n1_0, fun _ => ?_⟩) (fun g2 => ⟨fun _ => ⟨(by first | exact Or.inl rfl | exact Or.inr rfl | exact Or.inl trivial | exact Or.inr trivial), bad2 (fun w => g2 w.1)⟩, fun q => absurd rfl q⟩)
  rw [h3.2.1.2.2.2, h2.2.1.2.2.2]
  refine ⟨fun q3 => ?_, fun q3 => ⟨(by first | exact Or.inl rfl | exact Or.inr rfl | exact Or.inl trivial | exact Or.inr trivial), bad2 (fun w => q3 w.2)⟩⟩
  rw [show lnK t G b PB PG = lnB t G (zsn t (zsn t (zsn t b))) (zva t b) (zva t (zsn t b)) (zva t (zsn t (zsn t b))) PB PG from (cif_y yes).trans ((cif_y g).trans (cif_y ⟨g2, q3⟩))] at hp
  refine R6_step h3 (fun X4 Y4 k4 h4 => ?_)
  exact byT_s hn h4 (k.to (k23.trans k4)) hp
/-- what the text's reading may do -/
def RTk (t : Tp) (X : HX) (Y : HY) (Q : Qt) (PB : Nat → Prop) (PG : Nat → (Nat → Nat → Int32) → Prop) : Prop :=
  (∀ X' Y' b', Kq6 X X' Y Y' → PB b' → Q (.inl (some (.int (nI b')))) (LX6 ++ []) X' Y') ∧ (∀ X' Y' n D, Kq6 X X' Y Y' → X' 0 5 = nI n → (∀ k, k < n → k < 40 → X' 1 k = D k 0 ∧ X' 2 k = D k 1 ∧ X' 3 k = D k 2 ∧ X' 4 k = D k 3 ∧ X' 5 k = D k 4) → PG n D → Q (.inl (some (.int (-1)))) (LX6 ++ []) X' Y')
theorem RTk.to {PB : Nat → Prop} {PG : Nat → (Nat → Nat → Int32) → Prop} (h : RTk t X Y Q PB PG) (k : Kq6 X X' Y Y') : RTk t X' Y' Q PB PG := ⟨fun X2 Y2 b2 k2 => h.1 X2 Y2 b2 (k.trans k2), fun X2 Y2 n D k2 => h.2 X2 Y2 n D (k.trans k2)⟩
theorem read_go {PB : Nat → Prop} {PG : Nat → (Nat → Nat → Int32) → Prop} : ∀ m i b n D X Y, i + m = 400 → n = i → Rd6 t G b n D X → RTk t X Y Q PB PG → rdK t G PB PG m b n D → hX6_read_30 Q [] (nI i) X Y := by
  intro m
  induction m with
  | zero =>
    intro i b n D X Y ei en h k hp
    apply hX6_read_30_i
    rw [m_le (by omega) (by omega)]
    refine ⟨fun _ => ?_, fun q => absurd (by omega) q⟩
    rw [h.2.1.1]
    exact k.1 X Y b Kq6.rfl hp
  | succ m ih =>
    intro i b n D X Y ei en h k hp
    apply hX6_read_30_i
    rw [m_le (by omega) (by omega)]
    refine ⟨fun q => by omega, fun _ => ?_⟩
    refine R6_readLine (by omega) h ⟨fun X2 Y2 b2 k2 h2 p2 => cK1_mk ⟨fun q => absurd rfl q, fun _ => ?_⟩, fun X2 Y2 b2 w f s te su k2 h2 p2 => cK1_mk ⟨fun _ => ?_, fun q => absurd n1_0 q⟩⟩ hp
    · rw [h2.2.1.1]
      exact k.1 X2 Y2 b2 k2 p2
    · have z5 := zth_lt (t := t) (b := b2)
      rw [h2.2.1.2.2.1, h2.2.1.1, m_0, m_eq (by omega) (by omega), m_eq (by omega) (by omega)]
      by_cases w0 : zth t b2 = 0
      · rw [cif_y w0] at p2
        refine ⟨fun q => absurd w0 q, fun _ => k.2 X2 Y2 (n + 1) _ k2 h2.2.2.2.1 h2.2.2.2.2.2 p2⟩
      rw [cif_n w0] at p2
      refine ⟨fun _ => ⟨fun q => ?_, fun q => ?_⟩, fun q => absurd w0 q⟩
      · rw [cif_y q] at p2
        refine R6_step h2 (fun X3 Y3 k3 h3 => ?_)
        rw [m_add i 1]
        exact ih (i + 1) (zsn t b2) (n + 1) _ X3 Y3 (by omega) (by omega) h3 (k.to (k2.trans k3)) p2
      · rw [cif_n q] at p2
        exact k.1 X2 Y2 b2 k2 p2
/-- the class' Reader reads a text -/
theorem X6_read_s {PB : Nat → Prop} {PG : Nat → (Nat → Nat → Int32) → Prop} (ht : TV6 X t) (k : RTk t X Y Q PB PG) (hp : txK t G PB PG) : tX6_read [.ref 0, .int (nI G)] (LX6 ++ []) X Y Q := by
  apply tX6_read_i
  have u0 : ∀ c, c ≠ 0 → up2 (up2 (up2 X 0 7 (nI G)) 0 8 (nI 0)) 0 5 (nI 0) c = X c := fun c hc => by rw [up2_row hc, up2_row hc, up2_row hc]
  have u8 : up2 (up2 (up2 X 0 7 (nI G)) 0 8 (nI 0)) 0 5 (nI 0) 0 8 = nI 0 := by rw [up2_idx (by omega), up2_same]
  have u7 : up2 (up2 (up2 X 0 7 (nI G)) 0 8 (nI 0)) 0 5 (nI 0) 0 7 = nI G := by rw [up2_idx (by omega), up2_idx (by omega), up2_same]
  have u5 : up2 (up2 (up2 X 0 7 (nI G)) 0 8 (nI 0)) 0 5 (nI 0) 0 5 = nI 0 := up2_same
  generalize up2 (up2 (up2 X 0 7 (nI G)) 0 8 (nI 0)) 0 5 (nI 0) = Xa at *
  have ha : TV6 Xa t := ht.eq (u0 6 (by omega)) (u0 7 (by omega))
  have ka : Kq6 X Xa Y Y := fun c hc => ⟨fun hd => u0 c (by omega), rfl⟩
  refine X6_step_s (b := 0) ha (by omega) u8 (fun X2 Y2 k2 a2 => cK0_mk ?_)
  have hb : zen zBl t 0 ≤ t.1 := (zen_sp zBl6 _ 0 rfl).2.1 (by omega)
  have h2 : Rd6 t G (zen zBl t 0) 0 (fun _ _ => 0) X2 := ⟨ha.eq ((k2.1 6 (by omega)).1 (by omega)) ((k2.1 7 (by omega)).1 (by omega)), a2, by rw [k2.2 7 (by omega)]; exact u7, by rw [k2.2 5 (by omega)]; exact u5, hb, fun k hk => absurd hk (by omega)⟩
  have kk : Kq6 X X2 Y Y2 := ka.trans (Kq6.of k2)
  have z5 := zth_lt (t := t) (b := zen zBl t 0)
  rw [a2.2.2.1, m_0, m_eq (by omega) (by omega)]
  refine ⟨fun q => ?_, fun q => ?_⟩
  · rw [show txK t G PB PG = rdK t G PB PG 400 (zen zBl t 0) 0 (fun _ _ => 0) from cif_n q] at hp
    exact read_go 400 0 _ 0 _ X2 Y2 rfl rfl h2 (k.to kk) hp
  · rw [show txK t G PB PG = PG 0 (fun _ _ => 0) from cif_y (Classical.not_not.mp q)] at hp
    exact k.2 X2 Y2 0 _ kk h2.2.2.2.1 (fun k hk => absurd hk (by omega)) hp
end Read6
