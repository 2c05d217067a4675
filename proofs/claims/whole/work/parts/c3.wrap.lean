/-! a method with handlers: its contract, its call -/
section Wr
variable {g : Gm} {hd : Hdl} {Q Q' : Qt}
theorem stepW_Q (hg : Gmono g) (hQ : ∀ r L X Y, Q r L X Y → Q' r L X Y) {K : Kt} {pc : Nat} {lv : Lv} {st : List Value} {L : Ly} {X : HX} {Y : HY} {z : Nat × Nat} (k : stepW g hd Q K pc lv st L X Y z) : stepW g hd Q' K pc lv st L X Y z := by
  unfold stepW at k ⊢
  split at k
  · exact stepP_mono hg hQ (fun _ _ _ _ _ _ _ h => h) k
  · exact k
theorem WPw.mono (hg : Gmono g) (hQ : ∀ r L X Y, Q r L X Y → Q' r L X Y) {pc : Nat} {lv : Lv} {st : List Value} {L : Ly} {X : HX} {Y : HY} {z : Nat × Nat} (k : WPw g hd Q pc lv st L X Y z) : WPw g hd Q' pc lv st L X Y z :=
  k (WPw g hd Q') (fun _ _ _ _ _ _ _ h => WPw.step hg (stepW_Q hg hQ h))
/-- its transformer -/
def pmTw (g : Gm) (hd : Hdl) (nL : Nat) : Tm := fun args L X Y Q => goB (Nat.ble (enL args).length nL) (WPw g hd Q 0 (enLv nL args) [] L X Y (0, 0))
theorem pmTw_mono (hg : Gmono g) (nL : Nat) : Tmono (pmTw g hd nL) := fun _ _ _ _ _ _ hQ k => goB_mono (WPw.mono hg hQ) k
theorem w_ent (nL : Nat) {as : List Value} {lv : Lv} {L : Ly} {X : HX} {Y : HY} (hb : Nat.ble (enL as).length nL = true) (he : enLv nL as = lv) (k : WPw g hd Q 0 lv [] L X Y (0, 0)) : pmTw g hd nL as L X Y Q := by
  subst he
  unfold pmTw
  rw [hb]
  exact k
end Wr
def pmPcH (nc : List (String × String)) (D : va_G) (ad : Nat → Nat) (ca : Nat → ClassId) (av : List Value) (L : Ly) (X : HX) (Y : HY) (sz : Nat) : Array Value → State → Prop :=
  va_Pc (av.map (cv ad)) (fun U => (U.heap.size = sz ∧ va_P D vwCl (cW ad ca L X Y) U.heap ∧ va_K D vwCl (cT ca L) U ∧ va_D (fun _ => True) (cW ad ca L X Y) ∧ pmExt ad (va_A (cW ad ca L X Y) sz) U U.heap) ∧ ∀ q ∈ nc, va_Nc q.1 q.2 U)
theorem pmPcH_blind {nc : List (String × String)} {D : va_G} {ad : Nat → Nat} {ca : Nat → ClassId} {av : List Value} {L : Ly} {X : HX} {Y : HY} {sz : Nat} : FrameBlind (pmPcH nc D ad ca av L X Y sz) := fun a U g mk q => by
  obtain ⟨q0, ⟨q1, qP, qK, qD, qE⟩, qN⟩ := q
  exact ⟨q0, ⟨q1, qP, va_K.moved (u := U) (U := U.calling g mk a) (Vm.Alike.refl U.vm) qK, qD, qE.same rfl⟩, fun w hw => va_Nc.moved (u := U) (U := U.calling g mk a) (Vm.Alike.refl U.vm) (qN w hw)⟩
def pmMetH (l : Launch) (D : va_G) (y : MethodName) (cc : ByteArray) (maxL : Nat) (ret : Option FieldType) (hh : List (Nat × Nat × Nat × Nat)) (rm : Room) (nc : List (String × String)) (T : Tm) : Prop :=
  ∀ (ad : Nat → Nat) (ca : Nat → ClassId) (av : List Value) (L : Ly) (X : HX) (Y : HY) (Q : Qt) (sz : Nat), T av L X Y Q →
    vx_Met l y (.codeWith y cc maxL ret hh :: TG) rm (pmPcH nc D ad ca av L X Y sz) (pmQc D ad ca L.length (va_A (cW ad ca L X Y) sz) Q) (pmXC D ad ca L.length (va_A (cW ad ca L X Y) sz) Q) rm.cells rm.slots (va_A (cW ad ca L X Y) sz)
/-- the handlers, by the tables -/
def hdSt (own : String) (cc : ByteArray) (nL : Nat) (hh : List (Nat × Nat × Nat × Nat)) (nc : List (String × String)) (hd : Hdl) : Prop := ∀ pc E q, hd pc E = some q → ∃ (pre : List ExceptionTableEntry) (x : ExceptionTableEntry) (suf : List ExceptionTableEntry) (name : String), tableOf hh = pre ++ x :: suf ∧
  (∀ z ∈ pre, covers z pc = false ∨ (z.catchType ≠ 0 ∧ ∃ nm : String, Cond.classLink own z.catchType nm ∈ TG ∧ (E, nm) ∈ nc)) ∧ covers x pc = true ∧ x.catchType ≠ 0 ∧ Cond.classLink own x.catchType name ∈ TG ∧ Cond.castable E name ∈ TX ∧ x.handlerPc = q.1 ∧ q.2.2 < nL ∧
  ((decode cc q.1 = .ok (.astore q.2.2, 2) ∧ q.2.1 = 2) ∨ ∃ f : Fin 4, f.val = q.2.2 ∧ decode cc q.1 = .ok (.astore_n f, 1) ∧ q.2.1 = 1)
section WrS
variable {l : Launch} {D : va_G} {g : Gm} {hd : Hdl} {cc : ByteArray} {nL : Nat} {ret : Option FieldType} {hh : List (Nat × Nat × Nat × Nat)} {nc : List (String × String)}
theorem pm_soundH {y : MethodName} {rm : Room} (hy : plainName y.cls = true) (G : gOk y.cls y.name cc ret g) (hcs : gCalls l D y.cls cc nL rm g) (h1 : gMc g = rm.cells) (h2 : gMs g = rm.slots) (h3 : 1 ≤ rm.frames ∧ 20 ≤ rm.locals)
    (hS : hdSt y.cls cc nL hh nc hd) (hnt : ∀ pc, g.2.2.2.1 pc = none) (hnn : ∀ k, g.2.2.2.2.1 k = none) (hna : ∀ pc t len tg kc, cdAt g.1 pc ≠ some (.newarray t, len, tg, kc)) : pmMetH l D y cc nL ret hh rm nc (pmTw g hd nL) := by
  intro ad ca av L X Y Q sz hT
  obtain ⟨hav, hT⟩ := goB_t hT
  have hav := Nat.le_of_ble_eq_true hav
  refine vx_ofWH (cc := cc) (maxL := nL) (ret := ret) (hh := hh) hy rfl ?_
  intro p e s m args below meth c s₁ B hml hv
  obtain ⟨rfl, ⟨hsz, hP, hK, hD0, hE⟩, hN⟩ := hv
  subst hsz
  have hts : ∀ w ∈ TG, w.before (av.map (cv ad)).toArray s = true := fun w hw => atoms_spec (ws := Cond.codeWith y cc nL ret hh :: TG) B.pre w (List.mem_cons_of_mem _ hw)
  have htb := vx_table (x := y) B (atoms_spec (ws := Cond.codeWith y cc nL ret hh :: TG) B.pre _ List.mem_cons_self)
  have hown : s.vm.findClass y.cls = some m.cls := findClass_of_methodNamed B.named
  have hnm : meth.name = y.name := (name_of_methodNamed B.named B.method).1
  have C : CallFix p m c cc nL s (av.map (cv ad)).toArray TG y.cls := ⟨B.exec, B.bytes, hml, hown, hts⟩
  have hA : ∀ q : Nat, s.heap.size ≤ q → va_A (cW ad ca L X Y) s.heap.size q := fun q h => Or.inr h
  have F : pmFixW p l rm s m (av.map (cv ad)).toArray meth c cc nL rm.cells rm.slots y.cls ret (va_A (cW ad ca L X Y) s.heap.size) ad g := ⟨C, B.notSynchronized, B.returns, rfl, rfl, h1, h2, hE, hA, h3.1, h3.2⟩
  have hcat : CatOk c s m (av.map (cv ad)).toArray y.cls cc nL hd := by
    intro pc E q hq
    obtain ⟨pre, x, suf, name, a1, a2, a3, a4, a5, a6, a7, a8, a9⟩ := hS pc E q hq
    refine ⟨pre, x, suf, name, htb.trans a1, fun z hz => ?_, a3, a4, hts _ a5, va_Nw.use (TX_onT a6) (hE.2.2.2.2.2.2 _ a6), a7, a8, a9⟩
    rcases a2 z hz with h | ⟨h0, nm, hl, hn⟩
    · exact Or.inl h
    · exact Or.inr ⟨h0, nm, hts _ hl, hN _ hn⟩
  have hl : (lg_sl (av.map (cv ad))).length ≤ nL := by rw [← enL_len]; exact hav
  rw [lg_entry_eq]
  have key := hT (pmPs p l e rm s m (av.map (cv ad)).toArray below meth c D nL rm.cells rm.slots (va_A (cW ad ca L X Y) s.heap.size) ad ca L.length Q) (fun pc lv st L X Y z k => snd_stepW F (hnm ▸ G) (hcs p e s m _ below meth c C) hcat hnt hnn hna pc lv st L X Y z k)
  exact key ad ca s.heap [] _ exA_refl (Nat.le_refl _) hK hP hD0.self va_S.rf (lvOk.entry hl)
variable {p : Program} {e : Env} {R : Room} {s : State} {m : MethodId} {args : Array Value} {below : List Frame} {meth : Method} {c : Code} {bytes : ByteArray} {pc idx maxL n : Nat} {own : String} {y : MethodName} {rm : Room} {T : Tm}
theorem cs_SH (S : CallFix p m c cc nL s args TG own) (hM : pmMetH l D y bytes maxL ret hh rm nc T) (hdc : decode cc pc = .ok (.invokestatic idx, 3)) (hcode : Cond.codeWith y bytes maxL ret hh ∈ TG) (hlink : Cond.methodLink own idx y ∈ TG) (hst : Cond.static y ∈ TG) (hini : Cond.initialized y.cls ∈ TG)
    (hy : y.cls ≠ "java/lang/invoke/MethodHandle" ∧ y.cls ≠ "java/lang/invoke/VarHandle" ∧ (parseMethodDescriptor y.desc).map (fun d => d.parameters.length) = some n) (hR : rm.frames + 1 ≤ R.frames ∧ 8 + (maxL + 11) + rm.locals ≤ R.locals) (hnc : ∀ q ∈ nc, va_Nc q.1 q.2 s) :
    CallSnd p l e R s m args below meth c D nL pc T n rm.cells rm.slots none := by
  intro ad ca av L X Y Q rest H locs cells slots ls hT hn hrc hK hP hD hE hls hr hc hs
  have hts := S.2.2.2.2
  have hG : GoodIn TG (Cond.codeWith y bytes maxL ret hh :: TG) := fun w hw => (List.mem_cons.mp hw).elim (fun e => e ▸ TG_good _ hcode) (fun h => TG_good _ h)
  have cb : vx_CSW R s args own idx y bytes maxL ret hh (Cond.codeWith y bytes maxL ret hh :: TG) rm rm.cells rm.slots n := ⟨⟨rfl, rfl, hR.1, hR.2, pay_in hts hG, List.mem_cons_self⟩, hts _ hcode, hts _ hini, ⟨hy.1, hy.2.1⟩, fun sig h => by
    have h9 := hy.2.2
    rw [h] at h9
    exact (Option.some.inj h9).symm, hts _ hlink, hts _ hst⟩
  exact vx_runSX (As := av.map (cv ad)) S (hM ad ca _ L X Y Q H.size hT) cb ⟨pmPcH_blind, fun U hU hW => ⟨rfl, ⟨by rw [hU], by rw [hU]; exact hP, va_K.moved hW.alike hK, hD, by rw [hU]; exact hE U hW⟩, fun q hq => va_Nc.moved hW.alike (hnc q hq)⟩⟩ rfl (by simpa using hn) hls rfl (room8 hr) hdc ⟨hc, hs⟩
end WrS
