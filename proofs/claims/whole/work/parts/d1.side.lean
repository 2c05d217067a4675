/-! class and reference side by side in the law's world -/
abbrev Sv : Type := St × Tp × Int32 × Ls × Kt8
def J8 (b : Bool) (X : HX) (Y : HY) (v : Sv) : Prop := A8 b (sb (selC b) X) (sb (selC b) Y) v.1 v.2.1 v.2.2.1 v.2.2.2.1 v.2.2.2.2
def J9 (X : HX) (Y : HY) (v : Sv) : Prop := A9 (sb sel9 X) (sb sel9 Y) v.1 v.2.1 v.2.2.1 v.2.2.2.1 v.2.2.2.2
theorem sC_in (b : Bool) : ∀ c, c < nC8 b → (selC b).getD c 0 < (LLw b).length ∧ (selC b).contains ((selC b).getD c 0) = true ∧ (selC b).idxOf ((selC b).getD c 0) = c := by cases b <;> decide +kernel
theorem s9_in (b : Bool) : ∀ c, c < 29 → sel9.getD c 0 < (LLw b).length ∧ sel9.contains (sel9.getD c 0) = true ∧ sel9.idxOf (sel9.getD c 0) = c := by cases b <;> decide +kernel
theorem sC_9 (b : Bool) : ∀ c, c < 29 → sel9.getD c 0 ∉ selC b := by cases b <;> decide +kernel
theorem s9_C (b : Bool) : ∀ c, c < nC8 b → (selC b).getD c 0 ∉ sel9 := by cases b <;> decide +kernel
theorem sW_in (b : Bool) : ∀ c, c < nC8 b → (selW b).contains ((selC b).getD c 0) = true ∧ (selW b).idxOf ((selC b).getD c 0) = (sel8 b).getD c 0 := by cases b <;> decide +kernel
theorem sW_9 (b : Bool) : ∀ c, c < 29 → sel9.getD c 0 ∉ selW b := by cases b <;> decide +kernel
theorem sW_8 (b : Bool) : ∀ c, c < nC8 b → (selW b).getD ((sel8 b).getD c 0) 0 = (selC b).getD c 0 := by cases b <;> decide +kernel
theorem s8_in (b : Bool) : ∀ c, c < nC8 b → (sel8 b).getD c 0 < (Lw b).length ∧ (sel8 b).contains ((sel8 b).getD c 0) = true ∧ (sel8 b).idxOf ((sel8 b).getD c 0) = c ∧ (sel8 b).getD c 0 ≠ 79 := by cases b <;> decide +kernel
section Mgs
variable {α : Type} {X X' X3 : Nat → α} {c : Nat}
theorem mgC_8 (b : Bool) (hc : c < nC8 b) : sb (selC b) (mg (selC b) (LLw b).length X X') c = X' c := by
  obtain ⟨h1, h2, h3⟩ := sC_in b c hc
  exact mg_in c h1 h2 h3
theorem mgC_9 (b : Bool) (hc : c < 29) : sb sel9 (mg (selC b) (LLw b).length X X') c = sb sel9 X c := mg_out (s9_in b c hc).1 (sC_9 b c hc)
theorem mg9_9 (b : Bool) (hc : c < 29) : sb sel9 (mg sel9 (LLw b).length X X') c = X' c := by
  obtain ⟨h1, h2, h3⟩ := s9_in b c hc
  exact mg_in c h1 h2 h3
theorem mg9_8 (b : Bool) (hc : c < nC8 b) : sb (selC b) (mg sel9 (LLw b).length X X') c = sb (selC b) X c := mg_out (sC_in b c hc).1 (s9_C b c hc)
theorem mgW_8 (b : Bool) (hc : c < nC8 b) : sb (selC b) (mg (selW b) (LLw b).length X X3) c = sb (sel8 b) X3 c := by
  obtain ⟨h2, h3⟩ := sW_in b c hc
  exact mg_in _ (sC_in b c hc).1 h2 h3
theorem mgW_9 (b : Bool) (hc : c < 29) : sb sel9 (mg (selW b) (LLw b).length X X3) c = sb sel9 X c := mg_out (s9_in b c hc).1 (sW_9 b c hc)
theorem mgW_o (b : Bool) : mg (selW b) (LLw b).length X X3 108 = X3 79 := mg_in 79 (by cases b <;> decide +kernel) (by cases b <;> decide +kernel) (by cases b <;> decide +kernel)
theorem mg9_o (b : Bool) : mg sel9 (LLw b).length X X' 108 = X 108 := mg_out (by cases b <;> decide +kernel) (by decide +kernel)
theorem mg9_m (b : Bool) : mg sel9 (LLw b).length X X' 79 = X' 0 := mg_in 0 (by cases b <;> decide +kernel) (by decide +kernel) (by decide +kernel)
theorem mg8_8 (b : Bool) (hc : c < nC8 b) : sb (sel8 b) (mg (sel8 b) (Lw b).length X X') c = X' c := by
  obtain ⟨h1, h2, h3, _⟩ := s8_in b c hc
  exact mg_in c h1 h2 h3
end Mgs
section Sds
variable {X X' X1 : HX} {Y Y' Y1 : HY} {s : St} {t : Tp} {f : Int32} {l : Ls} {o : Kt8} {b : Bool} {v w : Sv} {a : Rs} {g : Int32 → Int64} {cd : String → Nat} {k : Int32}
theorem J8.wr (h : J8 b X Y (s, t, f, l, o)) : A8 b (sb (sel8 b) (sb (selW b) X)) (sb (sel8 b) (sb (selW b) Y)) s t f l o := A8.eq h (fun c hc => ⟨congrArg X (sW_8 b c hc), congrArg Y (sW_8 b c hc)⟩)
theorem J8_C (h : A8 b X' Y' s t f l o) : J8 b (mg (selC b) (LLw b).length X X') (mg (selC b) (LLw b).length Y Y') (s, t, f, l, o) := h.eq (fun c hc => ⟨mgC_8 b hc, mgC_8 b hc⟩)
theorem J9_C (h : J9 X Y w) : J9 (mg (selC b) (LLw b).length X X') (mg (selC b) (LLw b).length Y Y') w := A9.eq h (fun c hc => ⟨mgC_9 b hc, mgC_9 b hc⟩)
theorem J9_9 (h : A9 X' Y' s t f l o) : J9 (mg sel9 (LLw b).length X X') (mg sel9 (LLw b).length Y Y') (s, t, f, l, o) := h.eq (fun c hc => ⟨mg9_9 b hc, mg9_9 b hc⟩)
theorem J8_9 (h : J8 b X Y v) : J8 b (mg sel9 (LLw b).length X X') (mg sel9 (LLw b).length Y Y') v := A8.eq h (fun c hc => ⟨mg9_8 b hc, mg9_8 b hc⟩)
theorem J9_W (h : J9 X Y w) : J9 (mg (selW b) (LLw b).length X X') (mg (selW b) (LLw b).length Y Y') w := A9.eq h (fun c hc => ⟨mgW_9 b hc, mgW_9 b hc⟩)
theorem J8_W {YY : HY} (h : A8 b X' Y' s t f l o) (e : ∀ c, c < nC8 b → YY ((sel8 b).getD c 0) = Y' c) : J8 b (mg (selW b) (LLw b).length X (mg (sel8 b) (Lw b).length (sb (selW b) X) X')) (mg (selW b) (LLw b).length Y YY) (s, t, f, l, o) := h.eq (fun c hc => ⟨(mgW_8 b hc).trans (mg8_8 b hc), (mgW_8 b hc).trans (e c hc)⟩)
theorem eY1 : ∀ c, c < nC8 b → mg (sel8 b) (Lw b).length (sb (selW b) Y) Y' ((sel8 b).getD c 0) = Y' c := fun _ hc => mg8_8 b hc
theorem eY2 {q : Int64} : ∀ c, c < nC8 b → up2 (mg (sel8 b) (Lw b).length (sb (selW b) Y) Y') 79 0 q ((sel8 b).getD c 0) = Y' c := fun c hc => (up2_row (s8_in b c hc).2.2.2).trans (eY1 c hc)
/-- the class' own call -/
theorem g8i {x : Int32} (h : A8 b X' Y' s t f l o) (h9 : J9 X Y w) (e : a = rI x) : cLi (LX8 b) (selC b) (LLw b).length X Y (fun x X1 Y1 => J8 b X1 Y1 (s, t, f, l, o) ∧ J9 X1 Y1 w ∧ a = rI x) a (LX8 b) X' Y' := ⟨rfl, x, e, J8_C h, J9_C h9, e⟩
theorem g8l {x : Int64} (h : A8 b X' Y' s t f l o) (h9 : J9 X Y w) (e : a = rL x) : cLl (LX8 b) (selC b) (LLw b).length X Y (fun x X1 Y1 => J8 b X1 Y1 (s, t, f, l, o) ∧ J9 X1 Y1 w ∧ a = rL x) a (LX8 b) X' Y' := ⟨rfl, x, e, J8_C h, J9_C h9, e⟩
/-- the reference's, behind it -/
theorem g9i {x : Int32} {res : Rs} {c : Int32} (h8 : J8 b X Y v) (h : A9 X' Y' s t f l o) (e : a = rI x) (ha : ansM cd a c res) : cLi (LX9 ++ []) sel9 (LLw b).length X Y (fun y X1 Y1 => J8 b X1 Y1 v ∧ J9 X1 Y1 (s, t, f, l, o) ∧ y = x) res (LX9 ++ []) X' Y' := by
  subst e
  exact ⟨rfl, x, ha.2, J8_9 h8, J9_9 h, rfl⟩
theorem g9l {x : Int64} {res : Rs} {c : Int32} (h8 : J8 b X Y v) (h : A9 X' Y' s t f l o) (e : a = rL x) (ha : ansM cd a c res) : cLl (LX9 ++ []) sel9 (LLw b).length X Y (fun y X1 Y1 => J8 b X1 Y1 v ∧ J9 X1 Y1 (s, t, f, l, o) ∧ y = x) res (LX9 ++ []) X' Y' := by
  subst e
  exact ⟨rfl, x, ha.2, J8_9 h8, J9_9 h, rfl⟩
/-- a wrapper's number and what it puts out -/
def wA (cd : String → Nat) (g : Int32 → Int64) (a : Rs) (k : Int32) (y : Int64) : Prop := match a with
  | .inl (some (.int x)) => k = nI 0 ∧ y = g x
  | .inr E => k = nI (cd E)
  | _ => False
def QW (b : Bool) (X : HX) (Y : HY) (C : Int32 → HX → HY → Prop) : Qt := cLi (Lw b) (selW b) (LLw b).length X Y C
def CW (b : Bool) (v w : Sv) (R : Int32 → Int64 → Prop) : Int32 → HX → HY → Prop := fun k X1 Y1 => J8 b X1 Y1 v ∧ J9 X1 Y1 w ∧ R k (Y1 108 0)
theorem gw_i {R : Int32 → Int64 → Prop} {C : Int32 → HX → HY → Prop} {CE : String → HX → HY → Prop} {x : Int32} (h : A8 b X' Y' s t f l o) (h9 : J9 X Y w) (hC : ∀ X2 Y2, QW b X Y (CW b (s, t, f, l, o) w R) (rI (nI 0)) (Lw b) X2 (up2 Y2 79 0 (g x)) → C x X2 Y2) (hR : R (nI 0) (g x)) : cWi (LX8 b) (sel8 b) (Lw b).length (sb (selW b) X) (sb (selW b) Y) C CE (rI x) (LX8 b) X' Y' := ⟨rfl, Or.inl ⟨x, rfl, hC _ _ ⟨rfl, _, rfl, J8_W h eY2, J9_W h9, by rw [mgW_o, up2_same]; exact hR⟩⟩⟩
theorem gw_e {R : Int32 → Int64 → Prop} {C : Int32 → HX → HY → Prop} {CE : String → HX → HY → Prop} {E : String} (h : A8 b X' Y' s t f l o) (h9 : J9 X Y w) (hE : ∀ X2 Y2, QW b X Y (CW b (s, t, f, l, o) w R) (rI k) (Lw b) X2 Y2 → CE E X2 Y2) (hR : ∀ y, R k y) : cWi (LX8 b) (sel8 b) (Lw b).length (sb (selW b) X) (sb (selW b) Y) C CE (.inr E) (LX8 b) X' Y' := ⟨rfl, Or.inr ⟨E, rfl, hE _ _ ⟨rfl, _, rfl, J8_W h eY1, J9_W h9, hR _⟩⟩⟩
/-- with one handler, with two -/
theorem gw1 {C : Int32 → HX → HY → Prop} {E1 : String} (g : Int32 → Int64) (cd : String → Nat) (h : A8 b X' Y' s t f l o) (h9 : J9 X Y w) (ha : isA a [E1]) (hc : cd E1 = 1) (hC : ∀ x X2 Y2, QW b X Y (CW b (s, t, f, l, o) w (wA cd g a)) (rI (nI 0)) (Lw b) X2 (up2 Y2 79 0 (g x)) → C x X2 Y2) : cWi (LX8 b) (sel8 b) (Lw b).length (sb (selW b) X) (sb (selW b) Y) C (fun E X2 Y2 => (E = E1 ∧ QW b X Y (CW b (s, t, f, l, o) w (wA cd g a)) (rI (nI 1)) (Lw b) X2 Y2)) a (LX8 b) X' Y' := by
  rcases ha with ⟨x, rfl⟩ | ⟨E, hE, rfl⟩
  · exact gw_i h h9 (hC x) ⟨rfl, rfl⟩
  · have e : E = E1 := List.mem_singleton.mp hE
    subst e
    exact gw_e h h9 (fun _ _ q => ⟨rfl, q⟩) (fun _ => by show nI 1 = nI (cd E); rw [hc])
theorem gw2 {C : Int32 → HX → HY → Prop} {E1 E2 : String} (g : Int32 → Int64) (cd : String → Nat) (h : A8 b X' Y' s t f l o) (h9 : J9 X Y w) (ha : isA a [E1, E2]) (hc : cd E1 = 1 ∧ cd E2 = 2) (hC : ∀ x X2 Y2, QW b X Y (CW b (s, t, f, l, o) w (wA cd g a)) (rI (nI 0)) (Lw b) X2 (up2 Y2 79 0 (g x)) → C x X2 Y2) : cWi (LX8 b) (sel8 b) (Lw b).length (sb (selW b) X) (sb (selW b) Y) C (fun E X2 Y2 => (E = E1 ∧ QW b X Y (CW b (s, t, f, l, o) w (wA cd g a)) (rI (nI 1)) (Lw b) X2 Y2) ∨ (E = E2 ∧ QW b X Y (CW b (s, t, f, l, o) w (wA cd g a)) (rI (nI 2)) (Lw b) X2 Y2)) a (LX8 b) X' Y' := by
  rcases ha with ⟨x, rfl⟩ | ⟨E, hE, rfl⟩
  · exact gw_i h h9 (hC x) ⟨rfl, rfl⟩
  · rcases List.mem_cons.mp hE with e | e
    · subst e
      exact gw_e h h9 (fun _ _ q => Or.inl ⟨rfl, q⟩) (fun _ => by show nI 1 = nI (cd E); rw [hc.1])
    · have e : E = E2 := List.mem_singleton.mp e
      subst e
      exact gw_e h h9 (fun _ _ q => Or.inr ⟨rfl, q⟩) (fun _ => by show nI 2 = nI (cd E); rw [hc.2])
/-- a boolean that is put out -/
theorem gw_z {P : Int64 → Prop} {x : Int32} (h : P (gz x)) : (x = 0 → P (lN 0)) ∧ (¬ x = 0 → P (lN 1)) := by
  unfold gz at h
  by_cases e : x = 0
  · rw [if_pos e] at h; exact ⟨fun _ => h, fun q => absurd e q⟩
  · rw [if_neg e] at h; exact ⟨fun q => absurd q e, fun _ => h⟩
/-- the reference behind a wrapper: what it says as thrown, and its answer -/
def C9w (b : Bool) (v w : Sv) (g : Int32 → Int64) (k : Int32) : Int32 → HX → HY → Prop := fun y X1 Y1 => J8 b X1 Y1 v ∧ J9 X1 Y1 w ∧ X1 79 0 = k ∧ (k = nI 0 → Y1 108 0 = g y)
theorem g9m {res : Rs} {y : Int32} (h8 : J8 b X Y v) (h : A9 X' Y' s t f l o) (e : res = rI y) (e1 : X' 0 0 = k) (e2 : k = nI 0 → Y 108 0 = g y) : cLi (LX9 ++ []) sel9 (LLw b).length X Y (C9w b v (s, t, f, l, o) g k) res (LX9 ++ []) X' Y' := ⟨rfl, y, e, J8_9 h8, J9_9 h, by rw [mg9_m]; exact e1, fun q => by rw [mg9_o]; exact e2 q⟩
theorem g9w {res : Rs} {Es : List String} (hcd : ∀ E, cd E = 1 ∨ cd E = 2) (h8 : J8 b X Y v) (h : A9 X' Y' s t f l o) (hA : isA a Es) (hw : wA cd g a k (Y 108 0)) (ha : ansM cd a (X' 0 0) res) : cLi (LX9 ++ []) sel9 (LLw b).length X Y (C9w b v (s, t, f, l, o) g k) res (LX9 ++ []) X' Y' := by
  rcases hA with ⟨x, rfl⟩ | ⟨E, hE, rfl⟩
  · exact g9m h8 h ha.2 (ha.1.trans hw.1.symm) (fun _ => hw.2)
  · obtain ⟨a1, y, a2⟩ := ha
    have hw : k = nI (cd E) := hw
    refine g9m h8 h a2 (a1.trans hw.symm) (fun q => ?_)
    rw [hw] at q
    rcases hcd E with e | e <;> rw [e] at q <;> exact absurd q (by decide)
theorem cd1_ok : ∀ E, cd1 E = 1 ∨ cd1 E = 2 := fun _ => Or.inl rfl
theorem cdG_ok : ∀ E, cdG E = 1 ∨ cdG E = 2 := fun E => by
  unfold cdG
  by_cases e : E = XI
  · rw [if_pos e]; exact Or.inl rfl
  · rw [if_neg e]; exact Or.inr rfl
theorem cdS_ok : ∀ E, cdS E = 1 ∨ cdS E = 2 := fun E => by
  unfold cdS
  by_cases e : E = XS
  · rw [if_pos e]; exact Or.inl rfl
  · rw [if_neg e]; exact Or.inr rfl
/-- what the reference threw last -/
theorem g9t (h8 : J8 b X Y v) (h9 : J9 X Y w) : tX9_thrown [.ref 0] (LX9 ++ []) (sb sel9 X) (sb sel9 Y) (cLi (LX9 ++ []) sel9 (LLw b).length X Y (fun x X1 Y1 => J8 b X1 Y1 v ∧ J9 X1 Y1 w ∧ x = X 79 0 ∧ Y1 108 = Y 108)) := tX9_thrown_i ⟨rfl, _, rfl, J8_9 h8, J9_9 h9, rfl, mg9_o b⟩
end Sds
