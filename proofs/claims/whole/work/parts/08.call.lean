/-! calls of the pure machine -/
def lenPS : List Nat := [3, 5, 4, 5, 2, 4]
def bytPS : List (List Int32) := [[109, 101, 116], [97, 112, 97, 114, 116], [111, 112, 101, 110], [97, 104, 101, 97, 100], [98, 121], [115, 117, 114, 101]]
def strTab : List (String × Nat × String × Nat) := [(RX6, 90, "met", 0), (RX6, 96, "apart", 1), (RX6, 98, "open", 2), (RX6, 100, "ahead", 3), (RX6, 102, "by", 4), (RX6, 104, "sure", 5), (RX9, 149, "met", 0), (RX9, 155, "apart", 1), (RX9, 157, "open", 2), (RX9, 159, "ahead", 3), (RX9, 165, "by", 4), (RX9, 167, "sure", 5)]
/-- private methods of nest mates -/
def nestTab : List (String × Nat × MethodName × String) := [(RX8, 11, yX7_init, RX8), (RX8, 37, yX5_init, RX8), (RX8, 59, yX3_init, RX8), (RX8, 72, yX1_init, RX8), (RX8, 79, yX2_init, RX8), (RX3, 41, yX8_lowest, RX8), (RX4, 73, yX8_lowest, RX8), (RX1, 104, yX8_lowest, RX8)]
/-- words of the tables that are no good ones: what is declared, what can be cast -/
def isDC (w : Cond) : Bool := match w with
  | .declares _ => true
  | .castable _ _ => true
  | _ => false
def TX : List Cond := lw_tbl.filter isDC
theorem TX_warm {w : Cond} (hw : w ∈ TX) {s U : State} (hW : s.WarmedH U.vm) (h : va_Nw w s) : va_Nw w U := by
  have h1 := (List.mem_filter.mp hw).2
  cases w with
  | declares x => exact va_Nw.warmD hW h
  | castable a b => exact va_Nw.warmC hW h
  | _ => cases h1
theorem TX_onT {w : Cond} (hw : w ∈ TX) : w.onTables = true := by
  have h1 := (List.mem_filter.mp hw).2
  cases w with
  | declares x => rfl
  | castable a b => rfl
  | _ => cases h1
/-- what lies outside the world: the JDK's own statics, the claim's texts -/
def pmExt (ad : Nat → Nat) (A : Nat → Prop) (U : State) (H : Heap) : Prop :=
  vx_Zq Bundle.tN "UNASSIGNED_STACK" Bundle.steD A U H ∧ vx_Zq Bundle.tN "SUPPRESSED_SENTINEL" Bundle.listD A U H ∧ (∃ adV, vk_S 6 lenPS bytPS (fun i => ad (1000 + i)) adV A U H) ∧ (∀ q ∈ strTab, vk_R q.1 q.2.1 q.2.2.1 (ad (1000 + q.2.2.2)) U) ∧ (va_Z "java/lang/String" "COMPACT_STRINGS" "Z" (.int 1) A U H ∧ vx_Zq "jdk/internal/util/Preconditions" "SIOOBE_FORMATTER" "Ljava/util/function/BiFunction;" A U H) ∧ (∀ q ∈ nestTab, va_Nw (.methodLinkNest q.1 q.2.1 q.2.2.1 q.2.2.2) U) ∧ ∀ w ∈ TX, va_Nw w U
theorem pmExt.ad {ad ad' : Nat → Nat} {A : Nat → Prop} {U : State} {H : Heap} (h : pmExt ad A U H) (he : ∀ k, 1000 ≤ k → ad' k = ad k) : pmExt ad' A U H := by
  obtain ⟨h1, h2, ⟨adV, h3⟩, h4, h5, h6, h7⟩ := h
  have e1 : (fun i => ad' (1000 + i)) = fun i => ad (1000 + i) := funext (fun i => he _ (by omega))
  exact ⟨h1, h2, ⟨adV, by rw [e1]; exact h3⟩, fun q hq => by rw [he _ (by omega)]; exact h4 q hq, h5, h6, h7⟩
theorem pmExt.to {ad : Nat → Nat} {A B : Nat → Prop} {s U : State} {H0 H : Heap} (h : pmExt ad A s H0) (hW : s.WarmedH U.vm) (hq : ∀ a : Nat, a < H0.size → ¬ A a → H[a]? = H0[a]?) (hAB : ∀ q, B q → A q) : pmExt ad B U H := by
  obtain ⟨h1, h2, ⟨adV, h3⟩, h4, h5, h6, h7⟩ := h
  exact ⟨((h1.kept hq).narrow hAB).moved hW.alike, ((h2.kept hq).narrow hAB).moved hW.alike, ⟨adV, ((h3.kept hq).narrow hAB).moved hW.alike⟩, fun q hq => (h4 q hq).warm hW, ⟨((h5.1.kept hq).narrow hAB).moved hW.alike, ((h5.2.kept hq).narrow hAB).moved hW.alike⟩, fun q hq => (h6 q hq).warmM hW, fun w hw => TX_warm hw hW (h7 w hw)⟩
theorem pmExt.same {ad : Nat → Nat} {A : Nat → Prop} {u U : State} {H : Heap} (h : pmExt ad A u H) (hv : U.vm = u.vm) : pmExt ad A U H := by
  obtain ⟨h1, h2, ⟨adV, h3⟩, h4, h5, h6, h7⟩ := h
  have hA : u.vm.Alike U.vm := by rw [hv]; exact Vm.Alike.refl u.vm
  exact ⟨h1.moved hA, h2.moved hA, ⟨adV, h3.moved hA⟩, fun q hq => (h4 q hq).same hv, ⟨h5.1.moved hA, h5.2.moved hA⟩, fun q hq => va_Nw.same rfl hv.symm (h6 q hq), fun w hw => va_Nw.same (TX_onT hw) hv.symm (h7 w hw)⟩
/-- what a method finds -/
def pmPc (D : va_G) (ad : Nat → Nat) (ca : Nat → ClassId) (av : List Value) (L : Ly) (X : HX) (Y : HY) (sz : Nat) : Array Value → State → Prop :=
  va_Pc (av.map (cv ad)) (fun U => U.heap.size = sz ∧ va_P D vwCl (cW ad ca L X Y) U.heap ∧ va_K D vwCl (cT ca L) U ∧ va_D (fun _ => True) (cW ad ca L X Y) ∧ pmExt ad (va_A (cW ad ca L X Y) sz) U U.heap)
theorem pmPc_blind {D : va_G} {ad : Nat → Nat} {ca : Nat → ClassId} {av : List Value} {L : Ly} {X : HX} {Y : HY} {sz : Nat} : FrameBlind (pmPc D ad ca av L X Y sz) := fun a U g mk q => by
  obtain ⟨q0, q1, qP, qK, qD, qE⟩ := q
  exact ⟨q0, q1, qP, va_K.moved (u := U) (U := U.calling g mk a) (Vm.Alike.refl U.vm) qK, qD, qE.same rfl⟩
/-- a method's contract: what its transformer says holds -/
def pmMet (l : Launch) (D : va_G) (y : MethodName) (cc : ByteArray) (maxL : Nat) (ret : Option FieldType) (rm : Room) (T : Tm) : Prop :=
  ∀ (ad : Nat → Nat) (ca : Nat → ClassId) (av : List Value) (L : Ly) (X : HX) (Y : HY) (Q : Qt) (sz : Nat), T av L X Y Q →
    vx_Met l y (.code y cc maxL ret :: TG) rm (pmPc D ad ca av L X Y sz) (pmQc D ad ca L.length (va_A (cW ad ca L X Y) sz) Q) (pmXC D ad ca L.length (va_A (cW ad ca L X Y) sz) Q) rm.cells rm.slots (va_A (cW ad ca L X Y) sz)
/-- a call's own run, at a place of the caller -/
def CallSnd (p : Program) (l : Launch) (e : Env) (R : Room) (s : State) (m : MethodId) (args : Array Value) (below : List Frame) (meth : Method) (c : Code) (D : va_G) (nL pc : Nat) (T : Tm) (n mc ms : Nat) (rc : Option Nat) : Prop :=
  ∀ (ad : Nat → Nat) (ca : Nat → ClassId) (av : List Value) (L : Ly) (X : HX) (Y : HY) (Q : Qt) (rest : List Value) (H : Heap) (locs : List Loc) (cells slots : Nat) (ls : Array Slot), T av L X Y Q → av.length = n → rcOk rc av L = true →
    va_K D vwCl (cT ca L) s → va_P D vwCl (cW ad ca L X Y) H → va_D (fun _ => True) (cW ad ca L X Y) → (∀ U : State, s.WarmedH U.vm → pmExt ad (va_A (cW ad ca L X Y) H.size) U H) → ls.size = nL → (rest.map fun v => v.category).sum ≤ 8 → cells + mc ≤ R.cells → slots + ms ≤ R.slots →
    vx_Run p l e R s m args below meth c H locs cells slots mc ms (F0 m pc ls ((av.map (cv ad)).reverse ++ rest)) rest (pmQc D ad ca L.length (va_A (cW ad ca L X Y) H.size) Q #[]) (pmXC D ad ca L.length (va_A (cW ad ca L X Y) H.size) Q) (va_A (cW ad ca L X Y) H.size)
section SndC
variable {p : Program} {l : Launch} {e : Env} {R : Room} {s : State} {m : MethodId} {args : Array Value} {below : List Frame} {meth : Method} {c : Code} {D : va_G} {cc bytes : ByteArray} {nL pc idx maxL n ci : Nat} {own : String} {y : MethodName} {ret : Option FieldType} {rm : Room} {T : Tm}
theorem room8 {pc : Nat} {ls : Array Slot} {st rest : List Value} (h : (rest.map fun v => v.category).sum ≤ 8) : 2 * (F0 m pc ls st).monitorRoom + (rest.map fun v => v.category).sum ≤ 8 := lv_room h
theorem TG_code {y : MethodName} {cc : ByteArray} {maxL : Nat} {ret : Option FieldType} (h : Cond.code y cc maxL ret ∈ TG) : GoodIn TG (Cond.code y cc maxL ret :: TG) := fun w hw => (List.mem_cons.mp hw).elim (fun e => e ▸ TG_good _ h) (fun h => TG_good _ h)
/-- invokevirtual -/
theorem cs_V (S : CallFix p m c cc nL s args TG own) (hM : pmMet l D y bytes maxL ret rm T) (hd : decode cc pc = .ok (.invokevirtual idx, 3)) (hcode : Cond.code y bytes maxL ret ∈ TG) (hlink : Cond.methodLink own idx y ∈ TG) (hin : Cond.instanceMethod y ∈ TG) (hsel : Cond.selects y.cls y y ∈ TG) (hini : Cond.initialized y.cls ∈ TG)
    (hy : y.cls ≠ "java/lang/invoke/MethodHandle" ∧ y.cls ≠ "java/lang/invoke/VarHandle" ∧ (parseMethodDescriptor y.desc).map (fun d => d.parameters.length) = some n) (hci : (vwCl[ci]?).map (fun q => q.1) = some y.cls) (hR : rm.frames + 1 ≤ R.frames ∧ 8 + (maxL + 11) + rm.locals ≤ R.locals) :
    CallSnd p l e R s m args below meth c D nL pc T (n + 1) rm.cells rm.slots (some ci) := by
  intro ad ca av L X Y Q rest H locs cells slots ls hT hn hrc hK hP hD hE hls hr hc hs
  have hts := S.2.2.2.2
  unfold rcOk at hrc
  split at hrc
  · rename_i he
    cases he
  rename_i ci2 he
  cases he
  split at hrc
  · rename_i b As
    split at hrc
    · rename_i ci3 sl hL
      have hci3 := Nat.eq_of_beq_eq_true hrc
      subst hci3
      obtain ⟨q, hq, hq1⟩ := Option.map_eq_some_iff.mp hci
      have hr1 := va_recv hK hP hq (cW_at hL)
      rw [hq1] at hr1
      have cb := callB_of (own := own) (index := idx) (R := R) (rm := rm) n hts (TG_code hcode) rfl rfl rfl (hts _ hini) (hts _ hlink) hy hR
      exact vx_runV (b := ad b) (As := As.map (cv ad)) S (hM ad ca _ L X Y Q H.size hT) ⟨cb, hts _ hin, hts _ hsel⟩ ⟨pmPc_blind, hr1, fun U hU hW => ⟨rfl, by rw [hU], by rw [hU]; exact hP, va_K.moved hW.alike hK, hD, by rw [hU]; exact hE U hW⟩⟩ rfl (by simpa using hn) hls (by simp [cv]) (room8 hr) hd ⟨hc, hs⟩
    · cases hrc
  · cases hrc
/-- invokestatic, of the class itself or of another one -/
theorem cs_S (S : CallFix p m c cc nL s args TG own) (hM : pmMet l D y bytes maxL ret rm T) (hd : decode cc pc = .ok (.invokestatic idx, 3)) (hcode : Cond.code y bytes maxL ret ∈ TG) (hlink : Cond.methodLink own idx y ∈ TG) (hst : Cond.static y ∈ TG) (hini : Cond.initialized y.cls ∈ TG)
    (hy : y.cls ≠ "java/lang/invoke/MethodHandle" ∧ y.cls ≠ "java/lang/invoke/VarHandle" ∧ (parseMethodDescriptor y.desc).map (fun d => d.parameters.length) = some n) (hR : rm.frames + 1 ≤ R.frames ∧ 8 + (maxL + 11) + rm.locals ≤ R.locals) :
    CallSnd p l e R s m args below meth c D nL pc T n rm.cells rm.slots none := by
  intro ad ca av L X Y Q rest H locs cells slots ls hT hn hrc hK hP hD hE hls hr hc hs
  have hts := S.2.2.2.2
  have cb := callB_of (own := own) (index := idx) (R := R) (rm := rm) n hts (TG_code hcode) rfl rfl rfl (hts _ hini) (hts _ hlink) hy hR
  exact vx_runS (As := av.map (cv ad)) S (hM ad ca _ L X Y Q H.size hT) ⟨cb, hts _ hst⟩ ⟨pmPc_blind, fun U hU hW => ⟨rfl, by rw [hU], by rw [hU]; exact hP, va_K.moved hW.alike hK, hD, by rw [hU]; exact hE U hW⟩⟩ rfl (by simpa using hn) hls rfl (room8 hr) hd ⟨hc, hs⟩
theorem cs_I (S : CallFix p m c cc nL s args TG own) (hM : pmMet l D y bytes maxL none rm T) (hd : decode cc pc = .ok (.invokespecial idx, 3)) (hcode : Cond.code y bytes maxL none ∈ TG) (hlink : Cond.methodLink own idx y ∈ TG) (hin : Cond.instanceMethod y ∈ TG) (hini : Cond.initialized y.cls ∈ TG) (hnm : y.name = "<init>")
    (hy : y.cls ≠ "java/lang/invoke/MethodHandle" ∧ y.cls ≠ "java/lang/invoke/VarHandle" ∧ (parseMethodDescriptor y.desc).map (fun d => d.parameters.length) = some n) (hR : rm.frames + 1 ≤ R.frames ∧ 8 + (maxL + 11) + rm.locals ≤ R.locals) :
    CallSnd p l e R s m args below meth c D nL pc T (n + 1) rm.cells rm.slots (some ci) := by
  intro ad ca av L X Y Q rest H locs cells slots ls hT hn hrc hK hP hD hE hls hr hc hs
  have hts := S.2.2.2.2
  unfold rcOk at hrc
  split at hrc
  · rename_i he
    cases he
  split at hrc
  · rename_i b As
    have cb := callB_of (own := own) (index := idx) (R := R) (rm := rm) n hts (TG_code hcode) rfl rfl rfl (hts _ hini) (hts _ hlink) hy hR
    exact vx_runI (b := ad b) (As := As.map (cv ad)) S (hM ad ca _ L X Y Q H.size hT) ⟨cb, hnm, hts _ hin⟩ ⟨pmPc_blind, fun U hU hW => ⟨rfl, by rw [hU], by rw [hU]; exact hP, va_K.moved hW.alike hK, hD, by rw [hU]; exact hE U hW⟩⟩ rfl (by simpa using hn) hls (by simp [cv]) (room8 hr) hd ⟨hc, hs⟩
  · cases hrc
theorem nest_of {A : Nat → Prop} {U : State} {H : Heap} {ad : Nat → Nat} (hE : pmExt ad A U H) {q : String × Nat × MethodName × String} (h : q ∈ nestTab) : va_Nw (.methodLinkNest q.1 q.2.1 q.2.2.1 q.2.2.2) U := hE.2.2.2.2.2.1 q h
theorem cs_IN (S : CallFix p m c cc nL s args TG own) (hM : pmMet l D y bytes maxL none rm T) (hd : decode cc pc = .ok (.invokespecial idx, 3)) (hcode : Cond.code y bytes maxL none ∈ TG) {host : String} (hlink : (own, idx, y, host) ∈ nestTab) (hin : Cond.instanceMethod y ∈ TG) (hini : Cond.initialized y.cls ∈ TG) (hnm : y.name = "<init>")
    (hy : y.cls ≠ "java/lang/invoke/MethodHandle" ∧ y.cls ≠ "java/lang/invoke/VarHandle" ∧ (parseMethodDescriptor y.desc).map (fun d => d.parameters.length) = some n) (hR : rm.frames + 1 ≤ R.frames ∧ 8 + (maxL + 11) + rm.locals ≤ R.locals) :
    CallSnd p l e R s m args below meth c D nL pc T (n + 1) rm.cells rm.slots (some ci) := by
  intro ad ca av L X Y Q rest H locs cells slots ls hT hn hrc hK hP hD hE hls hr hc hs
  have hts := S.2.2.2.2
  have hnw := nest_of (hE s (State.WarmedH.refl s)) hlink
  unfold rcOk at hrc
  split at hrc
  · rename_i he
    cases he
  split at hrc
  · rename_i b As
    have cb := va_cnB (own := own) (index := idx) (R := R) (rm := rm) n hts (TG_code hcode) rfl rfl rfl hnw (hts _ hini) hy hR
    exact vx_runIN (b := ad b) (As := As.map (cv ad)) S (hM ad ca _ L X Y Q H.size hT) ⟨cb, hnm, hts _ hin⟩ ⟨pmPc_blind, fun U hU hW => ⟨rfl, by rw [hU], by rw [hU]; exact hP, va_K.moved hW.alike hK, hD, by rw [hU]; exact hE U hW⟩⟩ rfl (by simpa using hn) hls (by simp [cv]) (room8 hr) hd ⟨hc, hs⟩
  · cases hrc
theorem cs_SN (S : CallFix p m c cc nL s args TG own) (hM : pmMet l D y bytes maxL ret rm T) (hd : decode cc pc = .ok (.invokestatic idx, 3)) (hcode : Cond.code y bytes maxL ret ∈ TG) {host : String} (hlink : (own, idx, y, host) ∈ nestTab) (hst : Cond.static y ∈ TG) (hini : Cond.initialized y.cls ∈ TG)
    (hy : y.cls ≠ "java/lang/invoke/MethodHandle" ∧ y.cls ≠ "java/lang/invoke/VarHandle" ∧ (parseMethodDescriptor y.desc).map (fun d => d.parameters.length) = some n) (hR : rm.frames + 1 ≤ R.frames ∧ 8 + (maxL + 11) + rm.locals ≤ R.locals) :
    CallSnd p l e R s m args below meth c D nL pc T n rm.cells rm.slots none := by
  intro ad ca av L X Y Q rest H locs cells slots ls hT hn hrc hK hP hD hE hls hr hc hs
  have hts := S.2.2.2.2
  have hnw := nest_of (hE s (State.WarmedH.refl s)) hlink
  have cb := va_cnB (own := own) (index := idx) (R := R) (rm := rm) n hts (TG_code hcode) rfl rfl rfl hnw (hts _ hini) hy hR
  exact vx_runSN (As := av.map (cv ad)) S (hM ad ca _ L X Y Q H.size hT) ⟨cb, hts _ hst, trivial⟩ ⟨pmPc_blind, fun U hU hW => ⟨rfl, by rw [hU], by rw [hU]; exact hP, va_K.moved hW.alike hK, hD, by rw [hU]; exact hE U hW⟩⟩ rfl (by simpa using hn) hls rfl (room8 hr) hd ⟨hc, hs⟩
end SndC
