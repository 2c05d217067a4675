/-! what holds from call to call looks at its own cells alone -/
section Frm
variable {X X' : HX} {Y Y' : HY} {s : St} {t : Tp} {f : Int32} {l : Ls} {o : Kt8} {b : Bool}
theorem A8.eq (h : A8 b X Y s t f l o) (e : ∀ c, c < nC8 b → X' c = X c ∧ Y' c = Y c) : A8 b X' Y' s t f l o := by
  have n79 := nC8_79 b
  exact h.kq (h.1.up9 (fun c h1 h2 _ => e c (by omega))) (fun c hc _ => (e c hc).1) (e 17 (by omega)).2 (fun i _ => by rw [(e 9 (by omega)).1]) (PV57 h.2.2.2.2.1 (e 61 (by omega)).1)
theorem A9.eq (h : A9 X Y s t f l o) (e : ∀ c, c < 29 → X' c = X c ∧ Y' c = Y c) : A9 X' Y' s t f l o := by
  obtain ⟨⟨m1, m2, m3, m4⟩, h2, h3, h4, h5⟩ := h
  have x0 : X' 0 = X 0 := (e 0 (by omega)).1
  have x1 : X' 1 = X 1 := (e 1 (by omega)).1
  exact ⟨⟨m1, m2, m3.of x1, m4.mono (by rw [x0]) (fun z => m1 X X' s (fun c z1 z2 => (e c (by omega)).1) (by rw [x0]) z)⟩, h2.fr (by rw [x0]) (e 5 (by omega)).1, by rw [x0]; exact h3, h4.fr (fun i _ => by rw [x1]) (e 3 (by omega)).2, h5.fr (by rw [x0]) (e 2 (by omega)).1 (e 4 (by omega)).2⟩
end Frm
