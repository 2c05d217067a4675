/-! every step is sound -/
theorem upR_ne {α : Type} [OfNat α 0] {X : Nat → Nat → α} {n k : Nat} (h : k ≠ n) : upR X n k = X k := by simp [upR, h]
theorem upR_eq {α : Type} [OfNat α 0] {X : Nat → Nat → α} {n : Nat} : upR X n n = fun _ => 0 := by simp [upR]
def adU {α : Type} (ad : Nat → α) (n : Nat) (q : α) : Nat → α := fun k => if k = n then q else ad k
theorem adU_ok {ad : Nat → Nat} {n q : Nat} (hn : n < 1000) : ∀ k, k < n ∨ 1000 ≤ k → adU ad n q k = ad k := fun k hk => if_neg (by omega)
theorem cW_push {ad : Nat → Nat} {ca : Nat → ClassId} {L : Ly} {X : HX} {Y : HY} {s : Sh} {q : Nat} {cA : ClassId} (ho : L.all (okB L.length) = true) (hl : L.length < 1000) :
    cW (adU ad L.length q) (adU ca L.length cA) (L ++ [s]) (upR X L.length) (upR Y L.length) = cW ad ca L X Y ++ [(q, cE (adU ad L.length q) (adU ca L.length cA) (upR X L.length) (upR Y L.length) L.length s)] := by
  apply List.ext_getElem?
  intro k
  by_cases hk : k < L.length
  · have hne : k ≠ L.length := by omega
    rw [List.getElem?_append_left (by rw [cW_len]; exact hk)]
    obtain ⟨s9, hs9⟩ : ∃ s9, L[k]? = some s9 := ⟨L[k], List.getElem?_eq_getElem hk⟩
    rw [cW_at (s := s9) (by rw [List.getElem?_append_left hk]; exact hs9), cW_at hs9]
    have hce : cE (adU ad L.length q) (adU ca L.length cA) (upR X L.length) (upR Y L.length) k s9 = cE ad ca X Y k s9 := cE_same (n := L.length) (Or.inr ⟨List.all_eq_true.mp ho _ (List.mem_of_getElem? hs9), adU_ok hl⟩) (show adU ca L.length cA k = ca k from if_neg hne) (upR_ne hne) (upR_ne hne)
    rw [hce]
    rw [show adU ad L.length q k = ad k from if_neg hne]
  · by_cases hk2 : k = L.length
    · subst hk2
      rw [cW_at (s := s) (by simp)]
      rw [List.getElem?_append_right (by rw [cW_len]; exact Nat.le_refl _), cW_len, Nat.sub_self]
      rw [show adU ad L.length q L.length = q from if_pos rfl]
      rfl
    · rw [List.getElem?_eq_none (by rw [cW_len]; simp; omega), List.getElem?_eq_none (by simp [cW_len]; omega)]
theorem cT_push {ca : Nat → ClassId} {L : Ly} {s : Sh} {cA : ClassId} {q : ClassId × FieldType} (h : q ∈ cT (adU ca L.length cA) (L ++ [s])) : q ∈ cT ca L ∨ ∃ t n, s = .inr (t, n) ∧ q = (cA, tyT t) := by
  obtain ⟨k, t, n, hL, rfl⟩ := cT_in h
  by_cases hk : k < L.length
  · rw [List.getElem?_append_left hk] at hL
    obtain ⟨t0, ht⟩ := cT_at (ca := ca) hL
    left
    rw [show adU ca L.length cA k = ca k from if_neg (by omega)]
    exact List.mem_of_getElem? ht
  · rw [List.getElem?_append_right (by omega)] at hL
    have h0 : k - L.length = 0 := by
      have := lt_of_get hL
      simp at this
      omega
    rw [h0] at hL
    right
    refine ⟨t, n, by simpa using hL, ?_⟩
    rw [show adU ca L.length cA k = cA from if_pos (by omega)]
theorem exA_push {ad ad0 : Nat → Nat} {ca ca0 : Nat → ClassId} {n0 n q : Nat} {cA : ClassId} (h0 : n0 ≤ n) (hn : n < 1000) (h : exA ad ad0 ca ca0 n0 n) : exA (adU ad n q) ad0 (adU ca n cA) ca0 n0 (n + 1) :=
  exA_trans h0 (Nat.le_succ n) h ⟨fun k hk => if_neg (by omega), fun k hk => if_neg (by omega), fun e => absurd e (by omega)⟩
/-- a class that 'new' names, its fields as they begin -/
def NewOk (own : String) (idx ci : Nat) (sl : List Sk) : Prop := ∃ C T N, vwCl[ci]? = some (C, T, N) ∧ Cond.classLink own idx C ∈ TG ∧ Cond.instantiable C N ∈ TG ∧ Cond.initialized C ∈ TG ∧ sl.length = N ∧ ∀ j, j < N → ∃ sk, sl[j]? = some sk ∧ ((∃ t, sk = .inl t ∧ t ≠ 1 ∧ defaultValue (tyF ci j) = .int 0) ∨ (sk = .inl 1 ∧ defaultValue (tyF ci j) = .long 0) ∨ (sk = .inr none ∧ defaultValue (tyF ci j) = .null))
/-- 'throw new E()' at a place -/
def ThrOk (own : String) (cc : ByteArray) (pc : Nat) (E : String) : Prop := ∃ ik ic : Nat, Bundle.fit E = true ∧ Cond.classLink own ik E ∈ TG ∧ Cond.initialized E ∈ TG ∧ (∀ w ∈ vx_at0 own ic E ["java/lang/RuntimeException", "java/lang/Exception"], w ∈ TG ∨ w ∈ TX) ∧
  decode cc pc = .ok (.new ik, 3) ∧ decode cc (pc + 3) = .ok (.dup, 1) ∧ decode cc (pc + 4) = .ok (.invokespecial ic, 3) ∧ decode cc (pc + 7) = .ok (.athrow, 1)
theorem TG_ot {w : Cond} (h : w ∈ TG ∨ w ∈ TX) : vx_ot w = true := by
  rcases h with h | h
  · simp [vx_ot, (List.mem_filter.mp h).2]
  · simp [vx_ot, TX_onT h]
/-- all that a method's tables must say -/
def gOk (own nm : String) (cc : ByteArray) (ret : Option FieldType) (g : Gm) : Prop :=
  cdOk cc g.1 = true ∧ (∀ idx ci k, g.2.1 idx = some (ci, k) → FldOk own idx ci k) ∧
  (∀ pc idx len tg kc ci k, cdAt g.1 pc = some (.putfield idx, len, tg, kc) → g.2.1 idx = some (ci, k) → PutOk own nm ci k) ∧
  (∀ pc idx len tg kc v, cdAt g.1 pc = some (.ldc idx, len, tg, kc) → g.2.2.2.2.2.1 idx = some v → (∃ x, v = .int x ∧ Cond.constant own idx x ∈ TG) ∨ ∃ q ∈ strTab, q.1 = own ∧ q.2.1 = idx ∧ v = .ref (1000 + q.2.2.2)) ∧
  (∀ pc idx len tg kc v, cdAt g.1 pc = some (.ldc_w idx, len, tg, kc) → g.2.2.2.2.2.1 idx = some v → ∃ x, v = .int x ∧ Cond.constant own idx x ∈ TG) ∧
  (∀ pc idx len tg kc v, cdAt g.1 pc = some (.ldc2_w idx, len, tg, kc) → g.2.2.2.2.2.1 idx = some v → ∃ x, v = .long x ∧ Cond.constantLong own idx x ∈ TG) ∧
  (∀ pc E, g.2.2.2.1 pc = some E → ThrOk own cc pc E) ∧ (∀ idx ci sl, g.2.2.2.2.1 idx = some (ci, sl) → NewOk own idx ci sl) ∧
  (∀ pc idx len tg kc, cdAt g.1 pc = some (.invokespecial idx, len, tg, kc) → g.2.2.1 pc = none → Cond.methodLink own idx objectInit ∈ TG) ∧
  (∀ pc len tg kc, cdAt g.1 pc = some (.ireturn, len, tg, kc) → ret = match g.2.2.2.2.2.2.2.2 with | true => some .boolean | false => some .int) ∧
  (∀ pc len tg kc, cdAt g.1 pc = some (.lreturn, len, tg, kc) → ret = some .long) ∧ (∀ pc len tg kc, cdAt g.1 pc = some (.return_, len, tg, kc) → ret = none)
theorem objInit_in : Cond.instanceMethod objectInit ∈ TG ∧ Cond.code objectInit ⟨#[0xb1]⟩ 1 none ∈ TG := ⟨TG_of (by decide +kernel) (by decide +kernel), TG_of (by decide +kernel) (by decide +kernel)⟩
theorem arr_in {t : ArrayType} {tag : Nat} (h : arT t = some tag) : Cond.arrayClass (newarray.typeOf t) ∈ TG ∧ newarray.typeOf t = tyT tag := by
  cases t with
  | int => cases h; exact ⟨TG_of (by decide +kernel) (by decide +kernel), rfl⟩
  | long => cases h; exact ⟨TG_of (by decide +kernel) (by decide +kernel), rfl⟩
  | byte => cases h; exact ⟨TG_of (by decide +kernel) (by decide +kernel), rfl⟩
  | boolean => cases h; exact ⟨TG_of (by decide +kernel) (by decide +kernel), rfl⟩
  | _ => cases h
theorem fit_2 : ∀ n ∈ ["java/lang/RuntimeException", "java/lang/Exception"], Bundle.fit n = true := by decide +kernel

section SndStep
variable {p : Program} {l : Launch} {e : Env} {R : Room} {s : State} {m : MethodId} {args : Array Value} {below : List Frame} {meth : Method} {c : Code} {D : va_G} {nL mc ms n0 : Nat} {A : Nat → Prop} {ad0 : Nat → Nat} {ca0 : Nat → ClassId} {Q : Qt} {g : Gm} {cc : ByteArray} {own : String} {ret : Option FieldType}
/-- what holds all the while in a method's body -/
def pmFix (p : Program) (l : Launch) (R : Room) (s : State) (m : MethodId) (args : Array Value) (meth : Method) (c : Code) (cc : ByteArray) (nL mc ms : Nat) (own : String) (ret : Option FieldType) (A : Nat → Prop) (ad0 : Nat → Nat) (g : Gm) : Prop :=
  CallFix p m c cc nL s args TG own ∧ meth.locks = false ∧ meth.sig.returnType = ret ∧ (∀ x ∈ c.exceptionTable.toList, False) ∧ R.cells = mc ∧ R.slots = ms ∧ gMc g = mc ∧ gMs g = ms ∧ pmExt ad0 A s s.heap ∧ (∀ q, s.heap.size ≤ q → A q) ∧ 1 ≤ R.frames ∧ 20 ≤ R.locals ∧ ((∃ pc E, g.2.2.2.1 pc = some E) → 5 < R.frames ∧ 89 ≤ R.locals ∧ l.stackTraces = false)
theorem snd_throw (F : pmFix p l R s m args meth c cc nL mc ms own ret A ad0 g) {pc : Nat} {E : String} (hE : g.2.2.2.1 pc = some E) (hT : ThrOk own cc pc E) {lv : Lv} {st : List Value} {L : Ly} {X : HX} {Y : HY} {z : Nat × Nat} (hz1 : z.1 + 1 ≤ mc) (hz2 : z.2 + 6 ≤ ms) (hcat : (st.map fun v => v.category).sum ≤ 8) (k : Q (.inr E) L X Y) :
    pmPs p l e R s m args below meth c D nL mc ms A ad0 ca0 n0 Q pc lv st L X Y z := by
  intro ad ca H locs ls hex hn0 hK hP hD hS hlv
  obtain ⟨⟨hx, hb, hml, hown, hts⟩, hlocks, hr, htab, hRc, hRs, -, -, hExt, hA, -, -, hR⟩ := F
  obtain ⟨hf1, hf2, hf3⟩ := hR ⟨pc, E, hE⟩
  obtain ⟨ik, ic, h1, h2, h3, h4, d0, d3, d4, d7⟩ := hT
  have hat : ∀ w ∈ vx_at0 own ic E ["java/lang/RuntimeException", "java/lang/Exception"], w.before args s = true := fun w hw => by
    rcases h4 w hw with q | q
    · exact hts w q
    · exact va_Nw.use (TX_onT q) (hExt.2.2.2.2.2.2 w q)
  refine vx_throw0 (own := own) (cls := E) (names := ["java/lang/RuntimeException", "java/lang/Exception"]) (ik := ik) (ic := ic) (A := A) hx hb hf3 hown h1 fit_2 (hts _ h2) (hts _ h3) hat ?_ hExt.1 hExt.2.1 hS (by rw [hml]; exact hlv.2.1) d0 d3 d4 d7 (fun x hx9 => (htab x hx9).elim) (show 2 + 3 < R.frames by omega) (by rw [cv_sum]; simp only [List.length_cons, List.length_nil]; omega) (by omega) (by omega) hlocks ?_ hS.2.2 hz1 hz2
  · intro w hw
    rcases List.mem_cons.mp hw with rfl | hw
    · exact TG_ot (Or.inl h2)
    · rcases List.mem_cons.mp hw with rfl | hw
      · exact TG_ot (Or.inl h3)
      · exact TG_ot (h4 w hw)
  · intro t hal hsz hk
    refine ⟨⟨L, X, Y, k, ad, ca, hex, hn0, hP.kept (fun k9 q9 h9 => hk _ (va_at_lt hP h9)), va_K.moved hal hK, hD⟩, Nat.le_trans hS.1 hsz, fun q h9 hq => ?_⟩
    rw [hk q (Nat.lt_of_lt_of_le h9 hS.1)]
    exact hS.2.1 q h9 hq
theorem snd_new (F : pmFix p l R s m args meth c cc nL mc ms own ret A ad0 g) {pc idx ci : Nat} {sl : List Sk} (hN : NewOk own idx ci sl) (hd : decode cc pc = .ok (.new idx, 3)) {lv : Lv} {st : List Value} {L : Ly} {X : HX} {Y : HY} {z : Nat × Nat} (hz1 : z.1 + 1 ≤ mc) (hz2 : z.2 + sl.length ≤ ms) (hlen : L.length < 1000) (ho1 : lv.all (okA L.length) = true) (ho2 : st.all (fun v => okA L.length (some v)) = true) (ho3 : L.all (okB L.length) = true)
    (k : pmPs p l e R s m args below meth c D nL mc ms A ad0 ca0 n0 Q (pc + 3) lv (.ref L.length :: st) (L ++ [.inl (ci, sl)]) (upR X L.length) (upR Y L.length) (z.1 + 1, z.2 + sl.length)) :
    pmPs p l e R s m args below meth c D nL mc ms A ad0 ca0 n0 Q pc lv st L X Y z := by
  intro ad ca H locs ls hex hn0 hK hP hD hS hlv
  obtain ⟨⟨hx, hb, hml, hown, hts⟩, hlocks, hr, htab, hRc, hRs, -, -, hExt, hA, -, -, hR⟩ := F
  obtain ⟨C, T, N, h1, h2, h3, h4, h5, h6⟩ := hN
  subst h5
  refine va_new (D := D) (ci := ci) (fs := sl.mapIdx (fun j s9 => cSk ad (fun _ => 0) (fun _ => 0) j s9)) (C := C) (T := T) (N := sl.length) hx hb hts (cls_ok h1).1 (tyF ci) (cls_ok h1).2.1 hown (hts _ h2) (hts _ h3) (hts _ h4) hK hP hD hS hA h1 ?_ (by omega) (by omega) hd ?_
  · intro j hj
    obtain ⟨sk, hs1, hs2⟩ := h6 j hj
    have e1 : vp_V (sl.mapIdx (fun j s9 => cSk ad (fun _ => 0) (fun _ => 0) j s9)) j = cSk ad (fun _ => 0) (fun _ => 0) j sk := by
      simp [vp_V, List.getD, List.getElem?_mapIdx, hs1]
    rw [e1]
    rcases hs2 with ⟨t, rfl, ht, e2⟩ | ⟨rfl, e2⟩ | ⟨rfl, e2⟩
    · rw [e2]; simp [cSk, ht]
    · rw [e2]; rfl
    · rw [e2]; rfl
  · intro q H1 hP1 hD1 hS1
    have hfs : ∀ ad9 : Nat → Nat, (sl.mapIdx (fun j s9 => cSk ad9 (fun _ => 0) (fun _ => 0) j s9)) = sl.mapIdx (fun j s9 => cSk ad (fun _ => 0) (fun _ => 0) j s9) := fun ad9 => by
      apply List.ext_getElem?
      intro j
      simp only [List.getElem?_mapIdx]
      cases hj : sl[j]? with
      | none => rfl
      | some sk =>
        obtain ⟨sk2, hs1, hs2⟩ := h6 j (lt_of_get hj)
        rw [hj] at hs1
        cases hs1
        rcases hs2 with ⟨t, rfl, ht, e2⟩ | ⟨rfl, e2⟩ | ⟨rfl, e2⟩ <;> rfl
    have hw : cW (adU ad L.length q) (adU ca L.length (ca L.length)) (L ++ [.inl (ci, sl)]) (upR X L.length) (upR Y L.length) = cW ad ca L X Y ++ [(q, .inr (ci, sl.mapIdx (fun j s9 => cSk ad (fun _ => 0) (fun _ => 0) j s9)))] := by
      rw [cW_push ho3 hlen]
      simp only [cE, upR_eq, hfs]
    have hst : (Value.ref L.length :: st).map (cv (adU ad L.length q)) = .ref q :: st.map (cv ad) := by
      rw [List.map_cons, st_ad (adU_ok hlen) (fun v hv => List.all_eq_true.mp ho2 v hv)]
      simp [cv, adU]
    have h9 := k (adU ad L.length q) (adU ca L.length (ca L.length)) H1 locs ls (by rw [List.length_append]; exact exA_push hn0 hlen hex) (by rw [List.length_append]; omega) (va_K_of hK (fun q9 hq9 => (cT_push hq9).elim id (fun ⟨t, n, h, _⟩ => by cases h))) (by rw [hw]; exact hP1) (by rw [hw]; exact hD1) hS1 (lvOk_ad (adU_ok hlen) ho1 hlv)
    rw [hst] at h9
    exact h9
theorem snd_newa (F : pmFix p l R s m args meth c cc nL mc ms own ret A ad0 g) {pc tag : Nat} {t : ArrayType} (hT : arT t = some tag) (hd : decode cc pc = .ok (.newarray t, 2)) {n : Int32} {lv : Lv} {st : List Value} {L : Ly} {X : HX} {Y : HY} {z : Nat × Nat} (hn : ¬ n < 0) (hn2 : n.toNatClampNeg ≤ 5000) (hz1 : z.1 + 1 ≤ mc) (hz2 : z.2 + n.toNatClampNeg ≤ ms) (hlen : L.length < 1000) (ho1 : lv.all (okA L.length) = true) (ho2 : st.all (fun v => okA L.length (some v)) = true) (ho3 : L.all (okB L.length) = true)
    (k : pmPs p l e R s m args below meth c D nL mc ms A ad0 ca0 n0 Q (pc + 2) lv (.ref L.length :: st) (L ++ [.inr (tag, n.toNatClampNeg)]) (upR X L.length) (upR Y L.length) (z.1 + 1, z.2 + n.toNatClampNeg)) :
    pmPs p l e R s m args below meth c D nL mc ms A ad0 ca0 n0 Q pc lv (.int n :: st) L X Y z := by
  intro ad ca H locs ls hex hn0 hK hP hD hS hlv
  obtain ⟨⟨hx, hb, hml, hown, hts⟩, hlocks, hr, htab, hRc, hRs, -, -, hExt, hA, -, -, hR⟩ := F
  obtain ⟨h1, h2⟩ := arr_in hT
  have hdv : ∀ cA : ClassId, vp_cell cA (n.toNatClampNeg, cC tag (fun _ => 0) (fun _ => 0)) = arrV cA n.toNatClampNeg (fun _ => defaultValue (tyT tag)) := fun cA => by
    cases t <;> cases hT <;> rfl
  have hbytes : n.toNatClampNeg * componentBytes (tyT tag) ≤ 536870912 := by
    have h8 : componentBytes (tyT tag) ≤ 8 := by cases t <;> cases hT <;> decide
    exact Nat.le_trans (Nat.mul_le_mul hn2 h8) (Nat.le_of_ble_eq_true rfl)
  refine va_newa (D := D) (atype := t) (ty := tyT tag) (a0 := (n.toNatClampNeg, cC tag (fun _ => 0) (fun _ => 0))) (N' := n.toNatClampNeg) hx hb (hts _ h1) h2 hK hP hD hS hA hdv hn rfl hbytes (by omega) (by omega) hd ?_
  intro q cA H1 hK1 hP1 hD1 hS1
  have hw : cW (adU ad L.length q) (adU ca L.length cA) (L ++ [.inr (tag, n.toNatClampNeg)]) (upR X L.length) (upR Y L.length) = cW ad ca L X Y ++ [(q, .inl (cA, n.toNatClampNeg, cC tag (fun _ => 0) (fun _ => 0)))] := by
    rw [cW_push ho3 hlen]
    simp only [cE, upR_eq]
    rw [show adU ca L.length cA L.length = cA from if_pos rfl]
  have hst : (Value.ref L.length :: st).map (cv (adU ad L.length q)) = .ref q :: st.map (cv ad) := by
    rw [List.map_cons, st_ad (adU_ok hlen) (fun v hv => List.all_eq_true.mp ho2 v hv)]
    simp [cv, adU]
  have h9 := k (adU ad L.length q) (adU ca L.length cA) H1 locs ls (by rw [List.length_append]; exact exA_push hn0 hlen hex) (by rw [List.length_append]; omega) (va_K_of hK1 (fun q9 hq9 => (cT_push hq9).elim (fun h => List.mem_append_left _ h) (fun ⟨t9, n9, h, h'⟩ => by cases h; exact List.mem_append_right _ (by rw [h']; exact List.mem_cons_self)))) (by rw [hw]; exact hP1) (by rw [hw]; exact hD1) hS1 (lvOk_ad (adU_ok hlen) ho1 hlv)
  rw [hst] at h9
  exact h9
end SndStep
