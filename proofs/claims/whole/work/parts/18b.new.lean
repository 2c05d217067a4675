/-! what is new: checks by programs -/
def dfI (v : Value) : Bool := match v with
  | .int x => decide (x = 0)
  | _ => false
def dfL (v : Value) : Bool := match v with
  | .long x => decide (x = 0)
  | _ => false
def dfN (v : Value) : Bool := match v with
  | .null => true
  | _ => false
def nwB (ci : Nat) (sl : List Sk) (j : Nat) : Bool := match sl[j]? with
  | some (.inl t) => if t = 1 then dfL (defaultValue (tyF ci j)) else dfI (defaultValue (tyF ci j))
  | some (.inr none) => dfN (defaultValue (tyF ci j))
  | _ => false
theorem nwO {ci N : Nat} {sl : List Sk} (h : (List.range N).all (nwB ci sl) = true) : ∀ j, j < N → ∃ sk, sl[j]? = some sk ∧ ((∃ t, sk = .inl t ∧ t ≠ 1 ∧ defaultValue (tyF ci j) = .int 0) ∨ (sk = .inl 1 ∧ defaultValue (tyF ci j) = .long 0) ∨ (sk = .inr none ∧ defaultValue (tyF ci j) = .null)) := by
  intro j hj
  have h1 := List.all_eq_true.mp h j (List.mem_range.mpr hj)
  unfold nwB at h1
  split at h1
  · rename_i t ht
    refine ⟨_, ht, ?_⟩
    split at h1
    · rename_i e
      subst e
      refine Or.inr (Or.inl ⟨rfl, ?_⟩)
      unfold dfL at h1
      split at h1
      · rename_i x hx
        rw [hx, of_decide_eq_true h1]
      · cases h1
    · rename_i e
      refine Or.inl ⟨t, rfl, e, ?_⟩
      unfold dfI at h1
      split at h1
      · rename_i x hx
        rw [hx, of_decide_eq_true h1]
      · cases h1
  · rename_i ht
    refine ⟨_, ht, Or.inr (Or.inr ⟨rfl, ?_⟩)⟩
    unfold dfN at h1
    split at h1
    · assumption
    · cases h1
  · cases h1
def obB (calls : Nat → Option Ce) (i : Nat) (q : Cd) : Bool := match q.2.1 with
  | .invokespecial idx => (calls q.1).isSome || Nat.beq idx i
  | _ => true
theorem obi_of {own : String} {g : Gm} {i : Nat} (h : g.1.all (obB g.2.2.1 i) = true) (w : Cond.methodLink own i objectInit ∈ TG) : ∀ pc idx len tg kc, cdAt g.1 pc = some (.invokespecial idx, len, tg, kc) → g.2.2.1 pc = none → Cond.methodLink own idx objectInit ∈ TG := by
  intro pc idx len tg kc hc hn
  have h9 := cdAt_all h hc
  simp only [obB, hn, Option.isSome_none, Bool.false_or] at h9
  rw [Nat.eq_of_beq_eq_true h9]
  exact w
