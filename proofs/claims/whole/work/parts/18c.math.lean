/-! Math.max and Math.min -/
def tMax : Tm := fun av L X Y Q => ∃ x y : Int32, av = [.int x, .int y] ∧ Q (.inl (some (.int (if x < y then y else x)))) L X Y
def tMin : Tm := fun av L X Y Q => ∃ x y : Int32, av = [.int x, .int y] ∧ Q (.inl (some (.int (if y < x then y else x)))) L X Y
theorem moMax : Tmono tMax := fun _ _ _ _ _ _ hQ ⟨x, y, e, h⟩ => ⟨x, y, e, hQ _ _ _ _ h⟩
theorem moMin : Tmono tMin := fun _ _ _ _ _ _ hQ ⟨x, y, e, h⟩ => ⟨x, y, e, hQ _ _ _ _ h⟩
theorem tMax_i {Q : Qt} {x y : Int32} {L : Ly} {X : HX} {Y : HY} (h : Q (.inl (some (.int (if x < y then y else x)))) L X Y) : tMax [.int x, .int y] L X Y Q := ⟨x, y, rfl, h⟩
theorem tMin_i {Q : Qt} {x y : Int32} {L : Ly} {X : HX} {Y : HY} (h : Q (.inl (some (.int (if y < x then y else x)))) L X Y) : tMin [.int x, .int y] L X Y Q := ⟨x, y, rfl, h⟩
/-- a place that is never reached -/
def tNo : Tm := fun _ _ _ _ _ => False
theorem moNo : Tmono tNo := fun _ _ _ _ _ _ _ k => k
theorem csNo {p : Program} {l : Launch} {e : Env} {R : Room} {s : State} {m : MethodId} {args : Array Value} {below : List Frame} {meth : Method} {c : Code} {D : va_G} {nL pc n : Nat} : CallSnd p l e R s m args below meth c D nL pc tNo n 0 0 none := fun _ _ _ _ _ _ _ _ _ _ _ _ _ hT => hT.elim
section MM
variable {p : Program} {l : Launch} {e : Env} {R : Room} {s : State} {m : MethodId} {args : Array Value} {below : List Frame} {meth : Method} {c : Code} {D : va_G} {cc : ByteArray} {nL pc idx : Nat} {own : String}
theorem csMax (S : CallFix p m c cc nL s args TG own) (hd : decode cc pc = .ok (.invokestatic idx, 3)) (hlink : Cond.methodLink own idx Lib.Math.max.name ∈ TG) (hst : Cond.static Lib.Math.max.name ∈ TG) (hini : Cond.initialized "java/lang/Math" ∈ TG) (hcode : Cond.code Lib.Math.max.name Lib.Math.max.code 2 (some .int) ∈ TG) (hR : 1 ≤ R.frames ∧ 21 ≤ R.locals) : CallSnd p l e R s m args below meth c D nL pc tMax 2 0 0 none := by
  obtain ⟨hx, hb, hml, hown, hts⟩ := S
  intro ad ca av L X Y Q rest H locs cells slots ls hT hn hrc hK hP hD hE hls hr hc hs
  obtain ⟨x, y, rfl, hQ⟩ := hT
  intro T hT X1
  obtain ⟨vm', X2, st⟩ := va_mathMaxV X1 hx hown (hts _ hlink) (hts _ hst) (hts _ hini) (hts _ hcode) (g := F0 m pc ls (.int y :: .int x :: rest)) rfl (hls.trans hml.symm) (a := x) (b := y) (rest := rest) rfl (by rw [hb]; exact hd) hR.1 (by show 2 * 0 + _ + 13 ≤ _; omega) (by omega) (by omega)
  refine Or.inl ⟨some (.int (if x < y then y else x)), T, T.setVm vm', T.setVm vm', [], hT, by simpa using X2, fun q hq => absurd hq List.not_mem_nil, rfl, rfl, ⟨⟨_, L, X, Y, rfl, Or.inr (Or.inl ⟨_, rfl⟩), hQ, ad, ca, exA_refl, Nat.le_refl _, ?_, va_K.moved X2.warmed.alike hK, hD.self⟩, ?_⟩, fun target h => st target h⟩
  · show va_P D vwCl (cW ad ca L X Y) T.heap
    rw [hT]; exact hP
  · exact ⟨Nat.le_refl _, fun q _ _ => rfl⟩
theorem csMin (S : CallFix p m c cc nL s args TG own) (hd : decode cc pc = .ok (.invokestatic idx, 3)) (hlink : Cond.methodLink own idx Lib.Math.min.name ∈ TG) (hst : Cond.static Lib.Math.min.name ∈ TG) (hini : Cond.initialized "java/lang/Math" ∈ TG) (hcode : Cond.code Lib.Math.min.name Lib.Math.min.code 2 (some .int) ∈ TG) (hR : 1 ≤ R.frames ∧ 21 ≤ R.locals) : CallSnd p l e R s m args below meth c D nL pc tMin 2 0 0 none := by
  obtain ⟨hx, hb, hml, hown, hts⟩ := S
  intro ad ca av L X Y Q rest H locs cells slots ls hT hn hrc hK hP hD hE hls hr hc hs
  obtain ⟨x, y, rfl, hQ⟩ := hT
  intro T hT X1
  obtain ⟨vm', X2, st⟩ := X1.mathMinV hx hown (hts _ hlink) (hts _ hst) (hts _ hini) (hts _ hcode) (g := F0 m pc ls (.int y :: .int x :: rest)) rfl (hls.trans hml.symm) (a := x) (b := y) (rest := rest) rfl (by rw [hb]; exact hd) hR.1 (by show 2 * 0 + _ + 13 ≤ _; omega) (by omega) (by omega)
  refine Or.inl ⟨some (.int (if y < x then y else x)), T, T.setVm vm', T.setVm vm', [], hT, by simpa using X2, fun q hq => absurd hq List.not_mem_nil, rfl, rfl, ⟨⟨_, L, X, Y, rfl, Or.inr (Or.inl ⟨_, rfl⟩), hQ, ad, ca, exA_refl, Nat.le_refl _, ?_, va_K.moved X2.warmed.alike hK, hD.self⟩, ?_⟩, fun target h => st target h⟩
  · show va_P D vwCl (cW ad ca L X Y) T.heap
    rw [hT]; exact hP
  · exact ⟨Nat.le_refl _, fun q _ _ => rfl⟩
end MM
