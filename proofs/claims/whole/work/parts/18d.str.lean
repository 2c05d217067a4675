/-! the length and the signs of a text that is a constant -/
def tStrLen : Tm := fun av L X Y Q => ∃ i : Nat, i < 6 ∧ av = [.ref (1000 + i)] ∧ Q (.inl (some (.int (nI (lenPS.getD i 0))))) L X Y
def tStrAt : Tm := fun av L X Y Q => ∃ i k : Nat, i < 6 ∧ k < lenPS.getD i 0 ∧ av = [.ref (1000 + i), .int (nI k)] ∧ Q (.inl (some (.int ((bytPS.getD i []).getD k 0)))) L X Y
theorem moStrLen : Tmono tStrLen := fun _ _ _ _ _ _ hQ ⟨i, hi, e, h⟩ => ⟨i, hi, e, hQ _ _ _ _ h⟩
theorem moStrAt : Tmono tStrAt := fun _ _ _ _ _ _ hQ ⟨i, k, hi, hk, e, h⟩ => ⟨i, k, hi, hk, e, hQ _ _ _ _ h⟩
section STR
variable {p : Program} {l : Launch} {e : Env} {R : Room} {s : State} {m : MethodId} {args : Array Value} {below : List Frame} {meth : Method} {c : Code} {D : va_G} {cc : ByteArray} {nL pc idx : Nat} {own : String}
theorem csStrLen (S : CallFix p m c cc nL s args TG own) (hd : decode cc pc = .ok (.invokevirtual idx, 3)) (hlink : Cond.methodLink own idx yJ0_length_8abf5 ∈ TG) (hR : 13 ≤ R.frames ∧ 322 ≤ R.locals) : CallSnd p l e R s m args below meth c D nL pc tStrLen 1 0 0 none := by
  sorry
theorem csStrAt (S : CallFix p m c cc nL s args TG own) (hd : decode cc pc = .ok (.invokevirtual idx, 3)) (hlink : Cond.methodLink own idx yJ0_charAt_5068e ∈ TG) (hR : 13 ≤ R.frames ∧ 322 ≤ R.locals) : CallSnd p l e R s m args below meth c D nL pc tStrAt 2 0 0 none := by
  sorry
end STR
