/-! the length and the signs of a text that is a constant -/
def tStrLen : Tm := fun av L X Y Q => ∃ i : Nat, i < 6 ∧ av = [.ref (1000 + i)] ∧ Q (.inl (some (.int (nI (lenPS.getD i 0))))) L X Y
def tStrAt : Tm := fun av L X Y Q => ∃ i k : Nat, i < 6 ∧ k < lenPS.getD i 0 ∧ av = [.ref (1000 + i), .int (nI k)] ∧ Q (.inl (some (.int ((bytPS.getD i []).getD k 0)))) L X Y
theorem moStrLen : Tmono tStrLen := fun _ _ _ _ _ _ hQ ⟨i, hi, e, h⟩ => ⟨i, hi, e, hQ _ _ _ _ h⟩
theorem moStrAt : Tmono tStrAt := fun _ _ _ _ _ _ hQ ⟨i, k, hi, hk, e, h⟩ => ⟨i, k, hi, hk, e, hQ _ _ _ _ h⟩
