/-! the worlds of the law and of its wrappers: the class (79 cells), the reference (29), out, the crowd -/
def mvW (d : Nat) (k : Nat) : Nat := if k < 79 then k else k + d
/-- a wrapper's: the class, out, the crowd -/
def Lw (b : Bool) : Ly := ((LX8 b).take 79).map (rnS (mvW 1)) ++ [.inr (1, 1)] ++ ((LX8 b).drop 79).map (rnS (mvW 1))
/-- the law's: the class, the reference, out, the crowd -/
def LLw (b : Bool) : Ly := ((LX8 b).take 79).map (rnS (mvW 30)) ++ LX9.map (rnS (fun k => k + 79)) ++ [.inr (1, 1)] ++ ((LX8 b).drop 79).map (rnS (mvW 30))
def sel8 (b : Bool) : List Nat := List.range 79 ++ (if b then [80, 81, 82, 83] else [])
def selW (b : Bool) : List Nat := List.range 79 ++ [108] ++ (if b then [109, 110, 111, 112] else [])
def selC (b : Bool) : List Nat := List.range 79 ++ (if b then [109, 110, 111, 112] else [])
def sel9 : List Nat := (List.range 29).map (fun k => k + 79)
theorem Lw_len (b : Bool) : (Lw b).length = nC8 b + 1 := by cases b <;> decide +kernel
theorem LLw_len (b : Bool) : (LLw b).length = nC8 b + 30 := by cases b <;> decide +kernel
theorem sel8_ok (b : Bool) : selOk (sel8 b) (Lw b) (LX8 b) = true := by cases b <;> decide +kernel
theorem sel8_bk (b : Bool) : selBk (sel8 b) (Lw b) (LX8 b) (Lw b) = true := by cases b <;> decide +kernel
theorem sel8_gr : selBk (sel8 false) (Lw false) (LX8 true) (Lw true) = true := by decide +kernel
theorem selW_ok (b : Bool) : selOk (selW b) (LLw b) (Lw b) = true := by cases b <;> decide +kernel
theorem selW_bk (b : Bool) : selBk (selW b) (LLw b) (Lw b) (LLw b) = true := by cases b <;> decide +kernel
theorem selW_gr : selBk (selW false) (LLw false) (Lw true) (LLw true) = true := by decide +kernel
theorem selC_ok (b : Bool) : selOk (selC b) (LLw b) (LX8 b) = true := by cases b <;> decide +kernel
theorem selC_bk (b : Bool) : selBk (selC b) (LLw b) (LX8 b) (LLw b) = true := by cases b <;> decide +kernel
theorem sel9_ok (b : Bool) : selOk sel9 (LLw b) LX9 = true := by cases b <;> decide +kernel
theorem sel9_bk (b : Bool) : selBk sel9 (LLw b) LX9 (LLw b) = true := by cases b <;> decide +kernel
/-- behind the class' call in a wrapper: an answer, or what was thrown -/
def cWi (Lc : Ly) (sel : List Nat) (n : Nat) (X : HX) (Y : HY) (C : Int32 → HX → HY → Prop) (CE : String → HX → HY → Prop) : Qt := fun res L3 X3 Y3 => L3 = Lc ∧ ((∃ x, res = .inl (some (.int x)) ∧ C x (mg sel n X X3) (mg sel n Y Y3)) ∨ ∃ E, res = .inr E ∧ CE E (mg sel n X X3) (mg sel n Y Y3))
def cWv (Lc : Ly) (sel : List Nat) (n : Nat) (X : HX) (Y : HY) (C : HX → HY → Prop) (CE : String → HX → HY → Prop) : Qt := fun res L3 X3 Y3 => L3 = Lc ∧ ((res = .inl none ∧ C (mg sel n X X3) (mg sel n Y Y3)) ∨ ∃ E, res = .inr E ∧ CE E (mg sel n X X3) (mg sel n Y Y3))
section Wc
variable {g : Gm} {hd : Hdl} {Q : Qt} {pc : Nat} {lv : Lv} {st r : List Value} {L : Ly} {X : HX} {Y : HY} {z : Nat × Nat} {T : Tm} {na : Nat} {cs : Nat × Nat} {rc : Option Nat} {sel : List Nat} {Lc Lc2 L2 : Ly}
theorem w_call1 (hg : Gmono g) (n : Nat) (as : List Value) (z2 : Nat × Nat) {C : Int32 → HX → HY → Prop} {CE : String → HX → HY → Prop} (hce : g.2.2.1 pc = some (T, na, 1, cs, some (L, sel, Lc, Lc2, L2), rc)) (hb : qCk g (T, na, 1, cs, some (L, sel, Lc, Lc2, L2), rc) lv st L z = true) (hn : pc + 3 = n) (ha : (st.take na).reverse.map (rnV sel) = as) (hr : st.drop na = r) (hz : (z.1 + cs.1, z.2 + cs.2) = z2)
    (h : T as Lc (sb sel X) (sb sel Y) (cWi Lc2 sel L.length X Y C CE)) (k : ∀ x X1 Y1, C x X1 Y1 → WPw g hd Q n lv (.int x :: r) L2 X1 Y1 z2) (ke : ∀ E X1 Y1, CE E X1 Y1 → ∃ q, hd pc E = some q ∧ WPw g hd Q (q.1 + q.2.1) (fgt lv q.2.2) [] L2 X1 Y1 z2) : WPw g hd Q pc lv st L X Y z := by
  subst hn; subst hz; subst ha; subst hr
  refine w_call hg hce ?_
  unfold pmCall
  simp only [hce]
  unfold qCk at hb
  rw [hb]
  refine ⟨rfl, hg _ _ hce _ _ _ _ _ _ (fun res L3 X1 Y1 h9 => ?_) h⟩
  obtain ⟨e1, h9⟩ := h9
  refine ⟨e1, ?_⟩
  rcases h9 with ⟨x, e2, h9⟩ | ⟨E, e2, h9⟩
  · exact Or.inl ⟨x, e2, k x _ _ h9⟩
  · refine Or.inr ⟨E, e2, ?_⟩
    obtain ⟨q, q1, q2⟩ := ke E _ _ h9
    unfold hdQ
    simp only [q1]
    exact q2
theorem w_call0 (hg : Gmono g) (n : Nat) (as : List Value) (z2 : Nat × Nat) {C : HX → HY → Prop} {CE : String → HX → HY → Prop} (hce : g.2.2.1 pc = some (T, na, 0, cs, some (L, sel, Lc, Lc2, L2), rc)) (hb : qCk g (T, na, 0, cs, some (L, sel, Lc, Lc2, L2), rc) lv st L z = true) (hn : pc + 3 = n) (ha : (st.take na).reverse.map (rnV sel) = as) (hr : st.drop na = r) (hz : (z.1 + cs.1, z.2 + cs.2) = z2)
    (h : T as Lc (sb sel X) (sb sel Y) (cWv Lc2 sel L.length X Y C CE)) (k : ∀ X1 Y1, C X1 Y1 → WPw g hd Q n lv r L2 X1 Y1 z2) (ke : ∀ E X1 Y1, CE E X1 Y1 → ∃ q, hd pc E = some q ∧ WPw g hd Q (q.1 + q.2.1) (fgt lv q.2.2) [] L2 X1 Y1 z2) : WPw g hd Q pc lv st L X Y z := by
  subst hn; subst hz; subst ha; subst hr
  refine w_call hg hce ?_
  unfold pmCall
  simp only [hce]
  unfold qCk at hb
  rw [hb]
  refine ⟨rfl, hg _ _ hce _ _ _ _ _ _ (fun res L3 X1 Y1 h9 => ?_) h⟩
  obtain ⟨e1, h9⟩ := h9
  refine ⟨e1, ?_⟩
  rcases h9 with ⟨e2, h9⟩ | ⟨E, e2, h9⟩
  · exact Or.inl ⟨e2, k _ _ h9⟩
  · refine Or.inr ⟨E, e2, ?_⟩
    obtain ⟨q, q1, q2⟩ := ke E _ _ h9
    unfold hdQ
    simp only [q1]
    exact q2
end Wc
def naB (q : Cd) : Bool := match q.2.1 with
  | .newarray _ => false
  | _ => true
theorem na_of {l : List Cd} (h : l.all naB = true) : ∀ pc t len tg kc, cdAt l pc ≠ some (.newarray t, len, tg, kc) := fun pc t len tg kc hc => absurd (cdAt_all h hc) (by simp [naB])
