/-! the law's own machine: steps as ever, by the world that stands; the script is read -/
def stepL (gg : Ly → Gm) (xs : Nat → Int32) (N : Nat) (Q : Qt) (K : Kt) (pc : Nat) (lv : Lv) (st : List Value) (L : Ly) (X : HX) (Y : HY) (z : Nat × Nat) : Prop :=
  (∃ (j : Int32) (r : List Value) (tg : List Nat) (kc : Int32), st = .int j :: .ref 1999 :: r ∧ cdAt (gg L).1 pc = some (.iaload, 1, tg, kc) ∧ vp_in j N ∧ K (pc + 1) lv (.int (xs j.toNatClampNeg) :: r) L X Y z) ∨
  (∃ (r : List Value) (tg : List Nat) (kc : Int32), st = .ref 1999 :: r ∧ cdAt (gg L).1 pc = some (.arraylength, 1, tg, kc) ∧ K (pc + 1) lv (.int (Int32.ofNat N) :: r) L X Y z) ∨
  stepP (gg L) Q K pc lv st L X Y z
def WPl (gg : Ly → Gm) (xs : Nat → Int32) (N : Nat) (Q : Qt) : Kt := fun pc lv st L X Y z => ∀ P : Kt, (∀ pc lv st L X Y z, stepL gg xs N Q P pc lv st L X Y z → P pc lv st L X Y z) → P pc lv st L X Y z
section WL
variable {gg : Ly → Gm} {xs : Nat → Int32} {N : Nat} {Q : Qt} {pc len : Nat} {lv : Lv} {st r : List Value} {L : Ly} {X : HX} {Y : HY} {z : Nat × Nat} {tg : List Nat} {kc : Int32} {i : Instr} {v : Value} {a f j m t0 : Nat} {x y : Int32} {u w : Int64} {off : Int}
theorem stepL_mono (hg : ∀ L, Gmono (gg L)) {K K' : Kt} (hK : ∀ pc lv st L X Y z, K pc lv st L X Y z → K' pc lv st L X Y z) (k : stepL gg xs N Q K pc lv st L X Y z) : stepL gg xs N Q K' pc lv st L X Y z := by
  rcases k with ⟨j, r, tg, kc, h1, h2, h3, h4⟩ | ⟨r, tg, kc, h1, h2, h3⟩ | k
  · exact Or.inl ⟨j, r, tg, kc, h1, h2, h3, hK _ _ _ _ _ _ _ h4⟩
  · exact Or.inr (Or.inl ⟨r, tg, kc, h1, h2, hK _ _ _ _ _ _ _ h3⟩)
  · exact Or.inr (Or.inr (stepP_mono (hg L) (fun _ _ _ _ h => h) hK k))
theorem WPl.step (hg : ∀ L, Gmono (gg L)) (k : stepL gg xs N Q (WPl gg xs N Q) pc lv st L X Y z) : WPl gg xs N Q pc lv st L X Y z := fun P hP =>
  hP _ _ _ _ _ _ _ (stepL_mono hg (fun _ _ _ _ _ _ _ h => h P hP) k)
theorem WPl.stp (hg : ∀ L, Gmono (gg L)) (k : stepP (gg L) Q (WPl gg xs N Q) pc lv st L X Y z) : WPl gg xs N Q pc lv st L X Y z := WPl.step hg (Or.inr (Or.inr k))
/-- the script -/
theorem l_sld (hg : ∀ L, Gmono (gg L)) (n : Nat) (hc : cdAt (gg L).1 pc = some (.iaload, 1, tg, kc)) (hn : pc + 1 = n) (h : vp_in x N) (k : WPl gg xs N Q n lv (.int (xs x.toNatClampNeg) :: r) L X Y z) : WPl gg xs N Q pc lv (.int x :: .ref 1999 :: r) L X Y z := by
  subst hn
  exact WPl.step hg (Or.inl ⟨x, r, tg, kc, rfl, hc, h, k⟩)
theorem l_slen (hg : ∀ L, Gmono (gg L)) (n : Nat) (hc : cdAt (gg L).1 pc = some (.arraylength, 1, tg, kc)) (hn : pc + 1 = n) (k : WPl gg xs N Q n lv (.int (Int32.ofNat N) :: r) L X Y z) : WPl gg xs N Q pc lv (.ref 1999 :: r) L X Y z := by
  subst hn
  exact WPl.step hg (Or.inr (Or.inl ⟨r, tg, kc, rfl, hc, k⟩))
set_option maxHeartbeats 2000000 in
theorem l_load (hg : ∀ L, Gmono (gg L)) (n : Nat) (hc : cdAt (gg L).1 pc = some (i, len, tg, kc)) (hl : loadI i lv = some v) (hn : pc + len = n) (k : WPl gg xs N Q n lv (v :: st) L X Y z) : WPl gg xs N Q pc lv st L X Y z := by
  subst hn
  refine WPl.stp hg ?_
  unfold stepP
  simp only [hc]
  cases i <;> first | (cases hl; done) | (simp only [hl]; exact k)
set_option maxHeartbeats 2000000 in
theorem l_store (hg : ∀ L, Gmono (gg L)) (n : Nat) (lv2 : Lv) (hc : cdAt (gg L).1 pc = some (i, len, tg, kc)) (hl : storeI i lv v = some lv2) (hn : pc + len = n) (k : WPl gg xs N Q n lv2 st L X Y z) : WPl gg xs N Q pc lv (v :: st) L X Y z := by
  subst hn
  refine WPl.stp hg ?_
  unfold stepP
  simp only [hc]
  cases i <;> first | (cases hl; done) | (simp only [loadI, hl]; exact k)
set_option maxHeartbeats 2000000 in
theorem l_pure (hg : ∀ L, Gmono (gg L)) (n : Nat) (st2 : List Value) (hc : cdAt (gg L).1 pc = some (i, len, tg, kc)) (hl : pureI i kc st = some st2) (hn : pc + len = n) (k : WPl gg xs N Q n lv st2 L X Y z) : WPl gg xs N Q pc lv st L X Y z := by
  subst hn
  refine WPl.stp hg ?_
  unfold stepP
  simp only [hc]
  cases i <;> first | (cases hl; done) | (cases st <;> simp only [loadI, storeI, hl] <;> exact k)
theorem l_goto (hg : ∀ L, Gmono (gg L)) (n : Nat) (hc : cdAt (gg L).1 pc = some (.goto off, len, [n], kc)) (k : WPl gg xs N Q n lv st L X Y z) : WPl gg xs N Q pc lv st L X Y z := WPl.stp hg (by simp only [stepP, hc]; exact k)
theorem l_icmp (hg : ∀ L, Gmono (gg L)) (t n : Nat) {c : ClassFile.Cond} (hc : cdAt (gg L).1 pc = some (.if_icmp c off, len, [t], kc)) (hn : pc + len = n) (k1 : icm c x y → WPl gg xs N Q t lv r L X Y z) (k2 : ¬ icm c x y → WPl gg xs N Q n lv r L X Y z) : WPl gg xs N Q pc lv (.int y :: .int x :: r) L X Y z := by
  subst hn
  exact WPl.stp hg (by simp only [stepP, hc]; exact ⟨k1, k2⟩)
theorem l_if (hg : ∀ L, Gmono (gg L)) (t n : Nat) {c : ClassFile.Cond} (hc : cdAt (gg L).1 pc = some (.ifCond c off, len, [t], kc)) (hn : pc + len = n) (k1 : icm c x 0 → WPl gg xs N Q t lv r L X Y z) (k2 : ¬ icm c x 0 → WPl gg xs N Q n lv r L X Y z) : WPl gg xs N Q pc lv (.int x :: r) L X Y z := by
  subst hn
  exact WPl.stp hg (by simp only [stepP, hc]; exact ⟨k1, k2⟩)
theorem l_lcmp (hg : ∀ L, Gmono (gg L)) (n : Nat) (hc : cdAt (gg L).1 pc = some (.lcmp, len, tg, kc)) (hn : pc + len = n) (k : WPl gg xs N Q n lv (.int (lg_cmp u w) :: r) L X Y z) : WPl gg xs N Q pc lv (.long w :: .long u :: r) L X Y z := by
  subst hn
  exact WPl.stp hg (by simp only [stepP, hc]; exact k)
theorem l_ts (hg : ∀ L, Gmono (gg L)) {d : Nat} {ts : List Nat} {lo hi : Int} {offs : Array Int} (hc : cdAt (gg L).1 pc = some (.tableswitch off lo hi offs, len, d :: ts, kc)) (k0 : x.toInt < lo ∨ hi < x.toInt → WPl gg xs N Q d lv r L X Y z) (k1 : tswL (fun t => WPl gg xs N Q t lv r L X Y z) x lo ts) : WPl gg xs N Q pc lv (.int x :: r) L X Y z := WPl.stp hg (by simp only [stepP, hc]; exact ⟨k0, k1⟩)
theorem l_iinc (hg : ∀ L, Gmono (gg L)) (n : Nat) (lv2 : Lv) {d : Int} (hc : cdAt (gg L).1 pc = some (.iinc j d, len, tg, kc)) (hl : ldv lv j = some (.int x)) (h2 : lv.set j (some (.int (x + kc))) = lv2) (hn : pc + len = n) (k : WPl gg xs N Q n lv2 st L X Y z) : WPl gg xs N Q pc lv st L X Y z := by
  subst hn; subst h2
  exact WPl.stp hg (by simp only [stepP, hc, hl]; exact k)
theorem l_lald (hg : ∀ L, Gmono (gg L)) (n : Nat) (hc : cdAt (gg L).1 pc = some (.laload, len, tg, kc)) (hL : L[a]? = some (.inr (1, m))) (hn : pc + len = n) (h : vp_in x m) (k : WPl gg xs N Q n lv (.long (Y a x.toNatClampNeg) :: r) L X Y z) : WPl gg xs N Q pc lv (.int x :: .ref a :: r) L X Y z := by
  subst hn
  exact WPl.stp hg (by simp only [stepP, hc, hL]; exact ⟨h, k⟩)
/-- a call -/
theorem l_callV (hg : ∀ L, Gmono (gg L)) {idx : Nat} (hc : cdAt (gg L).1 pc = some (.invokevirtual idx, 3, tg, kc)) (k : pmCall (gg L) Q (WPl gg xs N Q) pc 3 lv st L X Y z) : WPl gg xs N Q pc lv st L X Y z := WPl.stp hg (by simp only [stepP, hc]; exact k)
theorem l_callS (hg : ∀ L, Gmono (gg L)) {idx : Nat} (hc : cdAt (gg L).1 pc = some (.invokestatic idx, 3, tg, kc)) (k : pmCall (gg L) Q (WPl gg xs N Q) pc 3 lv st L X Y z) : WPl gg xs N Q pc lv st L X Y z := WPl.stp hg (by simp only [stepP, hc]; exact k)
theorem l_callI (hg : ∀ L, Gmono (gg L)) {idx : Nat} {ce : Ce} (hc : cdAt (gg L).1 pc = some (.invokespecial idx, 3, tg, kc)) (hce : (gg L).2.2.1 pc = some ce) (k : pmCall (gg L) Q (WPl gg xs N Q) pc 3 lv st L X Y z) : WPl gg xs N Q pc lv st L X Y z := WPl.stp hg (by simp only [stepP, hc, hce]; exact k)
theorem l_iret (hg : ∀ L, Gmono (gg L)) (hc : cdAt (gg L).1 pc = some (.ireturn, len, tg, kc)) (hz : (Nat.ble z.1 (gMc (gg L)) && Nat.ble z.2 (gMs (gg L))) = true) (hbo : (gg L).2.2.2.2.2.2.2.2 = true) (h : x = 0 ∨ x = 1) (k : Q (.inl (some (.int x))) L X Y) : WPl gg xs N Q pc lv [.int x] L X Y z := WPl.stp hg (by simp only [stepP, hc, hz, hbo]; exact ⟨h, k⟩)
end WL
section SndL
variable {p : Program} {l : Launch} {e : Env} {R : Room} {s : State} {m : MethodId} {args : Array Value} {below : List Frame} {meth : Method} {c : Code} {D : va_G} {nL mc ms n0 : Nat} {A : Nat → Prop} {ad0 : Nat → Nat} {ca0 : Nat → ClassId} {Q : Qt} {gg : Ly → Gm} {cc : ByteArray} {own : String} {ret : Option FieldType} {xs : Nat → Int32} {N b0 : Nat}
theorem snd_stepL (F : ∀ L, pmFix p l R s m args meth c cc nL mc ms own ret A ad0 (gg L)) (G : ∀ L, gOk own meth.name cc ret (gg L)) (hcs : ∀ L pc ce, (gg L).2.2.1 pc = some ce → CallSnd p l e R s m args below meth c D nL pc ce.1 ce.2.1 ce.2.2.2.1.1 ce.2.2.2.1.2 ce.2.2.2.2.2 ∧ ceStat ce)
    (hX : va_X b0 N xs s s.heap) (hbl : b0 < s.heap.size) (hbA : ¬ A b0) (had : ad0 1999 = b0)
    (pc : Nat) (lv : Lv) (st : List Value) (L : Ly) (X : HX) (Y : HY) (z : Nat × Nat) (k : stepL gg xs N Q (pmPs p l e R s m args below meth c D nL mc ms A ad0 ca0 n0 Q) pc lv st L X Y z) : pmPs p l e R s m args below meth c D nL mc ms A ad0 ca0 n0 Q pc lv st L X Y z := by
  rcases k with ⟨j, r, tg, kc, h1, h2, h3, h4⟩ | ⟨r, tg, kc, h1, h2, h3⟩ | k
  · obtain ⟨⟨hx, hb, -⟩, -⟩ := F L
    obtain ⟨hd, -⟩ := cdOk_at (G L).1 h2
    subst h1
    intro ad ca H locs ls hex hn0 hK hP hD hS hlv
    have e9 : cv ad (.ref 1999) = .ref b0 := by
      show Value.ref (ad 1999) = _
      rw [hex.1 1999 (Or.inr (by omega)), had]
    rw [List.map_cons, List.map_cons, e9]
    exact va_sld hx hb hX hbl hbA hS h3 hd (h4 ad ca H locs ls hex hn0 hK hP hD hS hlv)
  · obtain ⟨⟨hx, hb, -⟩, -⟩ := F L
    obtain ⟨hd, -⟩ := cdOk_at (G L).1 h2
    subst h1
    intro ad ca H locs ls hex hn0 hK hP hD hS hlv
    have e9 : cv ad (.ref 1999) = .ref b0 := by
      show Value.ref (ad 1999) = _
      rw [hex.1 1999 (Or.inr (by omega)), had]
    rw [List.map_cons, e9]
    exact va_slen hx hb hX hbl hbA hS hd (h3 ad ca H locs ls hex hn0 hK hP hD hS hlv)
  · exact snd_step (F L) (G L) (hcs L) pc lv st L X Y z k
end SndL
