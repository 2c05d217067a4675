/-! a method's static checks out of programs -/
def putB (own nm : String) (fld : Nat → Option (Nat × Nat)) (q : Cd) : Bool := match q.2.1 with
  | .putfield idx => match fld idx with
    | some (ci, k) => match vwCl[ci]? with
      | some (_, T, _) => !(T k).2.2.2 || (decide (nm = "<init>") && decide ((T k).1 = own))
      | none => true
    | none => true
  | _ => true
def retB (ret : Option FieldType) (bz : Bool) (q : Cd) : Bool := match q.2.1 with
  | .ireturn => decide (ret = match bz with | true => some .boolean | false => some .int)
  | .lreturn => decide (ret = some .long)
  | .return_ => decide (ret = none)
  | _ => true
def ldcB (q : Cd) : Bool := match q.2.1 with
  | .ldc _ => false
  | .ldc_w _ => false
  | .ldc2_w _ => false
  | _ => true
def spB (calls : Nat → Option Ce) (q : Cd) : Bool := match q.2.1 with
  | .invokespecial _ => (calls q.1).isSome
  | _ => true
def chkB (own nm : String) (ret : Option FieldType) (g : Gm) : Bool := g.1.all (fun q => putB own nm g.2.1 q && retB ret g.2.2.2.2.2.2.2.2 q)
theorem cdAt_all {l : List Cd} {f : Cd → Bool} (h : l.all f = true) {pc : Nat} {q : Instr × Nat × List Nat × Int32} (hq : cdAt l pc = some q) : f (pc, q) = true := List.all_eq_true.mp h _ (cdAt_in hq)
theorem gOk_of {own nm : String} {cc : ByteArray} {ret : Option FieldType} {g : Gm} (h1 : cdOk cc g.1 = true) (h2 : ∀ idx ci k, g.2.1 idx = some (ci, k) → FldOk own idx ci k) (h3 : chkB own nm ret g = true)
    (h4 : (g.1.all ldcB = true) ∨ ((∀ pc idx len tg kc v, cdAt g.1 pc = some (.ldc idx, len, tg, kc) → g.2.2.2.2.2.1 idx = some v → (∃ x, v = .int x ∧ Cond.constant own idx x ∈ TG) ∨ ∃ q ∈ strTab, q.1 = own ∧ q.2.1 = idx ∧ v = .ref (1000 + q.2.2.2)) ∧
  (∀ pc idx len tg kc v, cdAt g.1 pc = some (.ldc_w idx, len, tg, kc) → g.2.2.2.2.2.1 idx = some v → ∃ x, v = .int x ∧ Cond.constant own idx x ∈ TG) ∧
  (∀ pc idx len tg kc v, cdAt g.1 pc = some (.ldc2_w idx, len, tg, kc) → g.2.2.2.2.2.1 idx = some v → ∃ x, v = .long x ∧ Cond.constantLong own idx x ∈ TG)))
    (h5 : ∀ pc E, g.2.2.2.1 pc = some E → ThrOk own cc pc E) (h6 : ∀ idx ci sl, g.2.2.2.2.1 idx = some (ci, sl) → NewOk own idx ci sl)
    (h7 : g.1.all (spB g.2.2.1) = true ∨ (∀ pc idx len tg kc, cdAt g.1 pc = some (.invokespecial idx, len, tg, kc) → g.2.2.1 pc = none → Cond.methodLink own idx objectInit ∈ TG)) : gOk own nm cc ret g := by
  have hput : ∀ pc idx len tg kc ci k, cdAt g.1 pc = some (.putfield idx, len, tg, kc) → g.2.1 idx = some (ci, k) → PutOk own nm ci k := by
    intro pc idx len tg kc ci k hc hf C T N hv
    have h9 := cdAt_all h3 hc
    simp only [putB, hf, hv, Bool.and_eq_true, Bool.or_eq_true, Bool.not_eq_true', decide_eq_true_eq] at h9
    exact h9.1
  have hret := fun pc q (hc : cdAt g.1 pc = some q) => (by have h9 := cdAt_all h3 hc; simp only [Bool.and_eq_true] at h9; exact h9.2 : retB ret g.2.2.2.2.2.2.2.2 (pc, q) = true)
  have hld : (∀ pc idx len tg kc v, cdAt g.1 pc = some (.ldc idx, len, tg, kc) → g.2.2.2.2.2.1 idx = some v → (∃ x, v = .int x ∧ Cond.constant own idx x ∈ TG) ∨ ∃ q ∈ strTab, q.1 = own ∧ q.2.1 = idx ∧ v = .ref (1000 + q.2.2.2)) ∧
      (∀ pc idx len tg kc v, cdAt g.1 pc = some (.ldc_w idx, len, tg, kc) → g.2.2.2.2.2.1 idx = some v → ∃ x, v = .int x ∧ Cond.constant own idx x ∈ TG) ∧
      (∀ pc idx len tg kc v, cdAt g.1 pc = some (.ldc2_w idx, len, tg, kc) → g.2.2.2.2.2.1 idx = some v → ∃ x, v = .long x ∧ Cond.constantLong own idx x ∈ TG) := by
    rcases h4 with h | h
    · exact ⟨fun pc idx len tg kc v hc _ => absurd (cdAt_all h hc) (by simp [ldcB]), fun pc idx len tg kc v hc _ => absurd (cdAt_all h hc) (by simp [ldcB]), fun pc idx len tg kc v hc _ => absurd (cdAt_all h hc) (by simp [ldcB])⟩
    · exact h
  refine ⟨h1, h2, hput, hld.1, hld.2.1, hld.2.2, h5, h6, ?_, ?_, ?_, ?_⟩
  · rcases h7 with h | h
    · intro pc idx len tg kc hc hn
      have h9 := cdAt_all h hc
      simp [spB, hn] at h9
    · exact h
  · intro pc len tg kc hc
    have h9 := hret pc _ hc
    simp only [retB, decide_eq_true_eq] at h9
    exact h9
  · intro pc len tg kc hc
    have h9 := hret pc _ hc
    simp only [retB, decide_eq_true_eq] at h9
    exact h9
  · intro pc len tg kc hc
    have h9 := hret pc _ hc
    simp only [retB, decide_eq_true_eq] at h9
    exact h9
theorem TX_of {w : Cond} (h : w ∈ lw_tbl) (g : isDC w = true) : w ∈ TX := List.mem_filter.mpr ⟨h, g⟩
theorem thr_words {L : List Cond} (h : ∀ w ∈ L, w ∈ lw_tbl) (g : L.all (fun w => goodWord w || isDC w) = true) : ∀ w ∈ L, w ∈ TG ∨ w ∈ TX := fun w hw => by
  have h1 := List.all_eq_true.mp g w hw
  simp only [Bool.or_eq_true] at h1
  exact h1.imp (TG_of (h w hw)) (TX_of (h w hw))
/-- no table -/
def noC : Nat → Option Ce := fun _ => none
def noT : Nat → Option String := fun _ => none
def noN : Nat → Option (Nat × List Sk) := fun _ => none
def noV : Nat → Option Value := fun _ => none
theorem gm_none {g : Gm} (h : g.2.2.1 = noC) : Gmono g := fun pc ce hc => by rw [h] at hc; cases hc
theorem gc_none {l : Launch} {D : va_G} {own : String} {cc : ByteArray} {nL : Nat} {R : Room} {g : Gm} (h : g.2.2.1 = noC) : gCalls l D own cc nL R g := fun p e s m args below meth c _ pc ce hc => by rw [h] at hc; cases hc
theorem gm_lk {g : Gm} {cs : List (Nat × Ce)} (h : g.2.2.1 = lk cs) (hT : ∀ q ∈ cs, Tmono q.2.1) : Gmono g := fun pc ce hc => by rw [h] at hc; exact hT _ (lk_in hc)
theorem gc_lk {l : Launch} {D : va_G} {own : String} {cc : ByteArray} {nL : Nat} {R : Room} {g : Gm} {cs : List (Nat × Ce)} (h : g.2.2.1 = lk cs) (hT : ∀ q ∈ cs, (∀ (p : Program) (e : Env) (s : State) (m : MethodId) (args : Array Value) (below : List Frame) (meth : Method) (c : Code), CallFix p m c cc nL s args TG own → CallSnd p l e R s m args below meth c D nL q.1 q.2.1 q.2.2.1 q.2.2.2.2.1.1 q.2.2.2.2.1.2 q.2.2.2.2.2.2) ∧ ceStat q.2) : gCalls l D own cc nL R g := fun p e s m args below meth c C pc ce hc => by
  rw [h] at hc
  have h9 := hT _ (lk_in hc)
  exact ⟨h9.1 p e s m args below meth c C, h9.2⟩
/-- an entry that is a constant -/
def CstK (own : String) (idx : Nat) (v : Value) : Prop := (∃ x, v = .int x ∧ Cond.constant own idx x ∈ TG) ∨ (∃ x, v = .long x ∧ Cond.constantLong own idx x ∈ TG) ∨ ∃ q ∈ strTab, q.1 = own ∧ q.2.1 = idx ∧ v = .ref (1000 + q.2.2.2)
def vkind (v : Option Value) : Nat := match v with
  | none => 0
  | some (.int _) => 1
  | some (.long _) => 2
  | some (.ref _) => 3
  | _ => 4
def ldB (cst : Nat → Option Value) (q : Cd) : Bool := match q.2.1 with
  | .ldc i => Nat.beq (vkind (cst i)) 0 || Nat.beq (vkind (cst i)) 1 || Nat.beq (vkind (cst i)) 3
  | .ldc_w i => Nat.beq (vkind (cst i)) 0 || Nat.beq (vkind (cst i)) 1
  | .ldc2_w i => Nat.beq (vkind (cst i)) 0 || Nat.beq (vkind (cst i)) 2
  | _ => true
theorem ld_ok {own : String} {g : Gm} {kc : List (Nat × Value)} (h : ∀ q ∈ kc, CstK own q.1 q.2) (hb : g.1.all (ldB (lk kc)) = true) (hg : g.2.2.2.2.2.1 = lk kc) : (∀ pc idx len tg kc v, cdAt g.1 pc = some (.ldc idx, len, tg, kc) → g.2.2.2.2.2.1 idx = some v → (∃ x, v = .int x ∧ Cond.constant own idx x ∈ TG) ∨ ∃ q ∈ strTab, q.1 = own ∧ q.2.1 = idx ∧ v = .ref (1000 + q.2.2.2)) ∧
    (∀ pc idx len tg kc v, cdAt g.1 pc = some (.ldc_w idx, len, tg, kc) → g.2.2.2.2.2.1 idx = some v → ∃ x, v = .int x ∧ Cond.constant own idx x ∈ TG) ∧
    (∀ pc idx len tg kc v, cdAt g.1 pc = some (.ldc2_w idx, len, tg, kc) → g.2.2.2.2.2.1 idx = some v → ∃ x, v = .long x ∧ Cond.constantLong own idx x ∈ TG) := by
  rw [hg]
  refine ⟨fun pc idx len tg kc v hc hv => ?_, fun pc idx len tg kc v hc hv => ?_, fun pc idx len tg kc v hc hv => ?_⟩
  · have h1 := cdAt_all hb hc
    simp only [ldB, hv] at h1
    rcases h _ (lk_in hv) with ⟨x, e, hx⟩ | ⟨x, e, hx⟩ | hx
    · exact Or.inl ⟨x, e, hx⟩
    · simp only at e; subst e; exact absurd h1 (by simp [vkind])
    · exact Or.inr hx
  · have h1 := cdAt_all hb hc
    simp only [ldB, hv] at h1
    rcases h _ (lk_in hv) with ⟨x, e, hx⟩ | ⟨x, e, hx⟩ | ⟨q, -, -, -, e⟩
    · exact ⟨x, e, hx⟩
    · simp only at e; subst e; exact absurd h1 (by simp [vkind])
    · simp only at e; subst e; exact absurd h1 (by simp [vkind])
  · have h1 := cdAt_all hb hc
    simp only [ldB, hv] at h1
    rcases h _ (lk_in hv) with ⟨x, e, hx⟩ | ⟨x, e, hx⟩ | ⟨q, -, -, -, e⟩
    · simp only at e; subst e; exact absurd h1 (by simp [vkind])
    · exact ⟨x, e, hx⟩
    · simp only at e; subst e; exact absurd h1 (by simp [vkind])
theorem thr_of {cc : ByteArray} {pc ik ic : Nat} {E : String} (h1 : Bundle.fit E = true) (h2 : Cond.classLink RX8 ik E ∈ TG) (h3 : Cond.initialized E ∈ TG) (h4 : ∀ w ∈ vx_at0 RX8 ic E ["java/lang/RuntimeException", "java/lang/Exception"], w ∈ TG ∨ w ∈ TX) (d0 : decode cc pc = .ok (.new ik, 3)) (d3 : decode cc (pc + 3) = .ok (.dup, 1)) (d4 : decode cc (pc + 4) = .ok (.invokespecial ic, 3)) (d7 : decode cc (pc + 7) = .ok (.athrow, 1)) : ThrOk RX8 cc pc E := ⟨ik, ic, h1, h2, h3, h4, d0, d3, d4, d7⟩
