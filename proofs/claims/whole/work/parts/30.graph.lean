/-! graphs: ways within a set, sets without rings, intervals -/
section GrA
def gRch (E : Nat → Nat → Prop) (P : Nat → Prop) (a b : Nat) : Prop := ∀ T : Nat → Prop, T a → (∀ x y, T x → P x → P y → E x y → T y) → T b
def gCon (E : Nat → Nat → Prop) (P : Nat → Prop) : Prop := ∀ a b, P a → P b → gRch E P a b
variable {E : Nat → Nat → Prop} {P P' V V' : Nat → Prop} {a b c x y : Nat}
theorem gRch.refl : gRch E P a a := fun _ h _ => h
theorem gRch.step (h : gRch E P a b) (hb : P b) (hc : P c) (e : E b c) : gRch E P a c := fun T h0 hs => hs b c (h T h0 hs) hb hc e
theorem gRch.trans (h : gRch E P a b) (k : gRch E P b c) : gRch E P a c := fun T h0 hs => k T (h T h0 hs) hs
theorem gRch.one (ha : P a) (hb : P b) (e : E a b) : gRch E P a b := gRch.refl.step ha hb e
theorem gRch.symm (hs : ∀ a b, E a b → E b a) (h : gRch E P a b) : gRch E P b a :=
  h (fun z => gRch E P z a) gRch.refl (fun x y hx px py e => (gRch.one py px (hs _ _ e)).trans hx)
theorem gRch.mono (hp : ∀ v, P v → P' v) (h : gRch E P a b) : gRch E P' a b := fun T h0 hs => h T h0 (fun x y tx px py e => hs x y tx (hp x px) (hp y py) e)
theorem gRch.mem (ha : P a) (h : gRch E P a b) : P b := h P ha (fun _ y _ _ py _ => py)
/-- what is reached from a place is itself in one piece -/
theorem gRch.inner (ha : P a) (h : gRch E P a b) : gRch E (fun v => gRch E P a v) a b := by
  have k := h (fun z => gRch E P a z ∧ gRch E (fun v => gRch E P a v) a z) ⟨gRch.refl, gRch.refl⟩ (fun x y hx px py e => ⟨hx.1.step px py e, hx.2.step hx.1 (hx.1.step px py e) e⟩)
  exact k.2
theorem gCon_comp (hs : ∀ a b, E a b → E b a) (ha : P a) : gCon E (fun v => gRch E P a v) := fun _ _ hx hy => (gRch.inner ha hx |>.symm hs).trans (gRch.inner ha hy)
noncomputable def gSz (P : Nat → Prop) : Nat → Nat
  | 0 => 0
  | n + 1 => gSz P n + @ite Nat (P n) (Classical.propDecidable _) 1 0
theorem gSz_le {n : Nat} (h : ∀ v, P v → P' v) : gSz P n ≤ gSz P' n := by
  induction n with
  | zero => exact Nat.le_refl _
  | succ n ih =>
    simp only [gSz]
    by_cases h1 : P n
    · simp only [h1, h n h1, if_true]; omega
    · by_cases h2 : P' n <;> simp only [h1, h2, if_true, if_false] <;> omega
theorem gSz_lt {n : Nat} (h : ∀ v, P v → P' v) {w : Nat} (hw : w < n) (h1 : P' w) (h2 : ¬ P w) : gSz P n < gSz P' n := by
  induction n with
  | zero => omega
  | succ n ih =>
    simp only [gSz]
    by_cases e : w = n
    · subst e
      have := gSz_le (n := w) h
      simp only [h1, h2, if_true, if_false]; omega
    · have := ih (by omega)
      by_cases h3 : P n
      · simp only [h3, h n h3, if_true]; omega
      · by_cases h4 : P' n <;> simp only [h3, h4, if_true, if_false] <;> omega
theorem gSz_bd {n : Nat} : gSz P n ≤ n := by
  induction n with
  | zero => exact Nat.le_refl _
  | succ n ih =>
    simp only [gSz]
    by_cases h1 : P n <;> simp only [h1, if_true, if_false] <;> omega
theorem g_max {α : Type} (Q : α → Prop) (f : α → Nat) (n : Nat) (hb : ∀ x, f x ≤ n) (x0 : α) (h0 : Q x0) : ∃ x, Q x ∧ ∀ y, Q y → f y ≤ f x := by
  have key : ∀ k (x : α), Q x → n - f x ≤ k → ∃ x, Q x ∧ ∀ y, Q y → f y ≤ f x := by
    intro k
    induction k with
    | zero =>
      intro x hx hk
      refine ⟨x, hx, fun y _ => ?_⟩
      have := hb x; have := hb y; omega
    | succ k ih =>
      intro x hx hk
      by_cases h : ∃ y, Q y ∧ f x < f y
      · obtain ⟨y, hy, hlt⟩ := h
        exact ih y hy (by have := hb y; omega)
      · refine ⟨x, hx, fun y hy => ?_⟩
        exact Nat.le_of_not_lt (fun q => h ⟨y, hy, q⟩)
  exact key _ x0 h0 (Nat.le_refl _)
theorem g_min {α : Type} (Q : α → Prop) (f : α → Nat) (x0 : α) (h0 : Q x0) : ∃ x, Q x ∧ ∀ y, Q y → f x ≤ f y := by
  have key : ∀ k (x : α), Q x → f x ≤ k → ∃ x, Q x ∧ ∀ y, Q y → f x ≤ f y := by
    intro k
    induction k with
    | zero =>
      intro x hx hk
      exact ⟨x, hx, fun y _ => by omega⟩
    | succ k ih =>
      intro x hx hk
      by_cases h : ∃ y, Q y ∧ f y < f x
      · obtain ⟨y, hy, hlt⟩ := h
        exact ih y hy (by omega)
      · refine ⟨x, hx, fun y hy => ?_⟩
        exact Nat.le_of_not_lt (fun q => h ⟨y, hy, q⟩)
  exact key _ x0 h0 (Nat.le_refl _)
/-- every part has someone whose acquaintances in it have all met -/
def gSimp (E : Nat → Nat → Prop) (T : Nat → Prop) (x : Nat) : Prop := ∀ y z, T y → T z → E x y → E x z → y = z ∨ E y z
def gCh (E : Nat → Nat → Prop) (V : Nat → Prop) : Prop := ∀ T : Nat → Prop, (∀ x, T x → V x) → (∃ x, T x) → ∃ x, T x ∧ gSimp E T x
theorem gCh.sub (h : gCh E V) (hs : ∀ x, P x → V x) : gCh E P := fun T hT hx => h T (fun x q => hs x (hT x q)) hx
theorem gCon_del (hs : ∀ a b, E a b → E b a) {A : Nat → Prop} {t : Nat} (hA : gCon E A) (ht : gSimp E A t) : gCon E (fun v => A v ∧ v ≠ t) := by
  intro a b ha hb
  have h := hA a b ha.1 hb.1 (fun z => A z ∧ (z ≠ t → gRch E (fun v => A v ∧ v ≠ t) a z) ∧ (z = t → ∃ p, A p ∧ p ≠ t ∧ gRch E (fun v => A v ∧ v ≠ t) a p ∧ E t p)) ⟨ha.1, fun _ => gRch.refl, fun q => absurd q ha.2⟩
    (fun x y hx px py e => by
      refine ⟨py, fun hy => ?_, fun hy => ?_⟩
      · by_cases hxt : x = t
        · obtain ⟨p, hp, hpt, hr, hpe⟩ := hx.2.2 hxt
          subst hxt
          rcases ht p y hp py hpe e with rfl | q
          · exact hr
          · exact hr.step ⟨hp, hpt⟩ ⟨py, hy⟩ q
        · exact (hx.2.1 hxt).step ⟨px, hxt⟩ ⟨py, hy⟩ e
      · by_cases hxt : x = t
        · exact hx.2.2 hxt
        · subst hy
          exact ⟨x, px, hxt, hx.2.1 hxt, hs _ _ e⟩)
  exact h.2.1 hb.2
theorem gCon_nb {A : Nat → Prop} (hA : gCon E A) {t u : Nat} (ht : A t) (hu : A u) (hn : u ≠ t) (hs : ∀ a b, E a b → E b a) : ∃ p, A p ∧ p ≠ t ∧ E t p := by
  have h := hA u t hu ht (fun z => z = t → ∃ p, A p ∧ p ≠ t ∧ E t p) (fun q => absurd q hn) (fun x y hx px py e hy => by
    by_cases hxt : x = t
    · exact hx hxt
    · subst hy; exact ⟨x, px, hxt, hs _ _ e⟩)
  exact h rfl
/-- two who have not met are not both met from two pieces apart -/
theorem gL4 (hs : ∀ a b, E a b → E b a) {N : Nat} : ∀ (n : Nat) (A B : Nat → Prop) (x y : Nat), gSz (fun v => A v ∨ B v) N ≤ n → (∀ v, A v ∨ B v → v < N) → gCon E A → gCon E B → (∀ a b, A a → B b → ¬ E a b ∧ a ≠ b) → ¬ E x y → x ≠ y → (∀ v, A v ∨ B v → v ≠ x ∧ v ≠ y) → (∃ a, A a ∧ E x a) → (∃ a, A a ∧ E y a) → (∃ b, B b ∧ E x b) → (∃ b, B b ∧ E y b) → gCh E (fun v => v = x ∨ v = y ∨ A v ∨ B v) → False := by
  intro n
  induction n with
  | zero =>
    intro A B x y hn hN _ _ _ _ _ _ hxa _ _ _ _
    obtain ⟨a, ha, _⟩ := hxa
    have := gSz_lt (P := fun _ => False) (P' := fun v => A v ∨ B v) (n := N) (fun _ q => q.elim) (hN a (Or.inl ha)) (Or.inl ha) (fun q => q)
    omega
  | succ n ih =>
    intro A B x y hn hN hA hB hAB hxy hne hd hxa hya hxb hyb hC
    have key : ∀ (A B : Nat → Prop) (t : Nat), A t → gSimp E (fun v => v = x ∨ v = y ∨ A v ∨ B v) t → gSz (fun v => A v ∨ B v) N ≤ n + 1 → (∀ v, A v ∨ B v → v < N) → gCon E A → gCon E B → (∀ a b, A a → B b → ¬ E a b ∧ a ≠ b) → (∀ v, A v ∨ B v → v ≠ x ∧ v ≠ y) → (∃ a, A a ∧ E x a) → (∃ a, A a ∧ E y a) → (∃ b, B b ∧ E x b) → (∃ b, B b ∧ E y b) → gCh E (fun v => v = x ∨ v = y ∨ A v ∨ B v) → False := by
      intro A B t ht hsi hn hN hA hB hAB hd hxa hya hxb hyb hC
      by_cases hex : ∃ u, A u ∧ u ≠ t
      · obtain ⟨u, hu, hut⟩ := hex
        obtain ⟨p, hp, hpt, hpe⟩ := gCon_nb hA ht hu hut hs
        have fix : ∀ w, (w = x ∨ w = y) → (∃ a, A a ∧ E w a) → ∃ a, (A a ∧ a ≠ t) ∧ E w a := by
          intro w hw ⟨a, ha, e⟩
          by_cases hat : a = t
          · subst hat
            have h9 := hsi w p (by rcases hw with h | h; exact Or.inl h; exact Or.inr (Or.inl h)) (Or.inr (Or.inr (Or.inl hp))) (hs _ _ e) hpe
            rcases h9 with h9 | h9
            · subst h9
              rcases hw with h | h
              · exact absurd h (hd w (Or.inl hp)).1
              · exact absurd h (hd w (Or.inl hp)).2
            · exact ⟨p, ⟨hp, hpt⟩, h9⟩
          · exact ⟨a, ⟨ha, hat⟩, e⟩
        refine ih (fun v => A v ∧ v ≠ t) B x y ?_ (fun v hv => hN v (hv.imp And.left id)) (gCon_del hs hA (fun y z hy hz => hsi y z (Or.inr (Or.inr (Or.inl hy))) (Or.inr (Or.inr (Or.inl hz))))) hB (fun a b ha hb => hAB a b ha.1 hb) hxy hne (fun v hv => hd v (hv.imp And.left id)) (fix x (Or.inl rfl) hxa) (fix y (Or.inr rfl) hya) hxb hyb (hC.sub (fun v hv => by
          rcases hv with h | h | h | h
          · exact Or.inl h
          · exact Or.inr (Or.inl h)
          · exact Or.inr (Or.inr (Or.inl h.1))
          · exact Or.inr (Or.inr (Or.inr h))))
        have := gSz_lt (P := fun v => (A v ∧ v ≠ t) ∨ B v) (P' := fun v => A v ∨ B v) (n := N) (fun v q => q.imp And.left id) (hN t (Or.inl ht)) (Or.inl ht) (fun q => by
          rcases q with q | q
          · exact q.2 rfl
          · exact (hAB t t ht q).2 rfl)
        omega
      · have only : ∀ a, A a → a = t := fun a ha => Classical.byContradiction (fun q => hex ⟨a, ha, q⟩)
        obtain ⟨a, ha, ea⟩ := hxa
        obtain ⟨b, hb, eb⟩ := hya
        have h1 := only a ha
        have h2 := only b hb
        subst h1
        subst h2
        rcases hsi x y (Or.inl rfl) (Or.inr (Or.inl rfl)) (hs _ _ ea) (hs _ _ eb) with q | q
        · exact hne q
        · exact hxy q
    obtain ⟨t, ht, hsi⟩ := hC _ (fun _ q => q) ⟨x, Or.inl rfl⟩
    have ends : ∀ w, (∃ a, A a ∧ E w a) → (∃ b, B b ∧ E w b) → ¬ t = w := by
      intro w ⟨a, ha, ea⟩ ⟨b, hb, eb⟩ e
      subst e
      rcases hsi a b (Or.inr (Or.inr (Or.inl ha))) (Or.inr (Or.inr (Or.inr hb))) ea eb with q | q
      · exact (hAB a b ha hb).2 q
      · exact (hAB a b ha hb).1 q
    rcases ht with h | h | h | h
    · exact ends x hxa hxb h
    · exact ends y hya hyb h
    · exact key A B t h hsi hn hN hA hB hAB hd hxa hya hxb hyb hC
    · have sw : (fun v => B v ∨ A v) = (fun v => A v ∨ B v) := funext (fun v => propext Or.comm)
      have sw2 : (fun v => v = x ∨ v = y ∨ B v ∨ A v) = (fun v => v = x ∨ v = y ∨ A v ∨ B v) := funext (fun v => propext ⟨fun q => by
        rcases q with q | q | q | q
        · exact Or.inl q
        · exact Or.inr (Or.inl q)
        · exact Or.inr (Or.inr (Or.inr q))
        · exact Or.inr (Or.inr (Or.inl q)), fun q => by
        rcases q with q | q | q | q
        · exact Or.inl q
        · exact Or.inr (Or.inl q)
        · exact Or.inr (Or.inr (Or.inr q))
        · exact Or.inr (Or.inr (Or.inl q))⟩)
      exact key B A t h (by rw [sw2]; exact hsi) (by rw [sw]; exact hn) (fun v hv => hN v hv.symm) hB hA (fun a b ha hb => ⟨fun q => (hAB b a hb ha).1 (hs _ _ q), fun q => (hAB b a hb ha).2 q.symm⟩) (fun v hv => hd v hv.symm) hxb hyb hxa hya (by rw [sw2]; exact hC)
end GrA
