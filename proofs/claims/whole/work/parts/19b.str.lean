/-! methods of the JDK that only read: a text's length and its signs -/
abbrev clPre : String := "jdk/internal/util/Preconditions"
abbrev dBiF : String := "Ljava/util/function/BiFunction;"
/-- the texts, and what the methods read beside them -/
def stP (adK adV : Nat → Nat) (A : Nat → Prop) (U : State) (H : Heap) : Prop := vk_S 6 lenPS bytPS adK adV A U H ∧ va_Z "java/lang/String" "COMPACT_STRINGS" "Z" (.int 1) A U H ∧ va_Zq clPre "SIOOBE_FORMATTER" dBiF A U H
theorem stP.moved {adK adV : Nat → Nat} {A : Nat → Prop} {u U : State} {H : Heap} (hvm : u.vm.Alike U.vm) (h : stP adK adV A u H) : stP adK adV A U H := ⟨h.1.moved hvm, h.2.1.moved hvm, h.2.2.moved hvm⟩
theorem stP.kept {adK adV : Nat → Nat} {A : Nat → Prop} {U : State} {H H1 : Heap} (h : stP adK adV A U H) (hq : ∀ a : Nat, a < H.size → ¬ A a → H1[a]? = H[a]?) : stP adK adV A U H1 := ⟨h.1.kept hq, h.2.1.kept hq, h.2.2.kept hq⟩
/-- a method that only reads: what it answers -/
def roMet (l : Launch) (y : MethodName) (cc : ByteArray) (maxL : Nat) (ret : Option FieldType) (rm : Room) (av : List Value) (P : State → Prop) (v : Option Value) : Prop :=
  Met l y (.code y cc maxL ret :: TG) rm (va_Pc av P) (fun _ st o t => o = .returned v ∧ va_F (fun _ => False) st t) 0 0 (fun _ => False)
def stQ (adK adV : Nat → Nat) (A : Nat → Prop) (U : State) : Prop := stP adK adV A U U.heap
theorem stQ_blind {av : List Value} {adK adV : Nat → Nat} {A : Nat → Prop} : FrameBlind (va_Pc av (stQ adK adV A)) := fun a U g mk q => by
  obtain ⟨q0, q1⟩ := q
  exact ⟨q0, stP.moved (u := U) (U := U.calling g mk a) (Vm.Alike.refl U.vm) q1⟩
theorem rT_blind {av : List Value} : FrameBlind (va_Pc av (fun _ => True)) := fun a U g mk q => ⟨q.1, trivial⟩
section RoB
variable {p : Program} {l : Launch} {e : Env} {R : Room} {s : State} {m : MethodId} {args : Array Value} {below : List Frame} {meth : Method} {c : Code} {H : Heap} {locs : List Loc} {cells slots : Nat} {Q : State → Prop} {pc : Nat} {ls : Array Slot} {rest st0 : List Value} {A0 : Nat → Prop} {v : Option Value}
/-- behind a call of such a method -/
theorem ro_go (hr : va_Run p l e R s m args below meth c H locs cells slots 0 0 (F0 m pc ls st0) rest (fun st o t => o = .returned v ∧ va_F (fun _ => False) st t) (fun _ => False)) (hS : va_S A0 s.heap H locs)
    (kk : ∀ (H1 : Heap) (locs1 : List Loc), va_S A0 s.heap H1 locs1 → W p l e R s m args below meth c H1 locs1 cells slots Q (F0 m (pc + 3) ls (v.toList ++ rest))) : W p l e R s m args below meth c H locs cells slots Q (F0 m pc ls st0) := by
  intro T hT X
  obtain ⟨v9, st₀, t, T', L, h0, X', hL, e1, e2, ⟨hv, hz, hk⟩, st⟩ := hr T hT X
  cases hv
  rw [h0] at hz hk
  obtain ⟨t2, a1, b1⟩ := kk T'.heap (locs ++ L) ⟨Nat.le_trans hS.1 (by rw [e1]; exact hz), fun q h1 h2 => by rw [e1, hk q (Nat.lt_of_lt_of_le h1 hS.1) id]; exact hS.2.1 q h1 h2, fun q hq => by
      rcases List.mem_append.mp hq with h | h
      · exact hS.2.2 q h
      · exact (hL q h).elim⟩ T' rfl X'
  exact ⟨t2, st t2 a1, b1⟩
theorem ro_vx {g : JFrame} {Qa : State → Outcome → State → Prop} {XC : String → State → State → Prop} {free : Addr → Prop} (hr : va_Run p l e R s m args below meth c H locs cells slots 0 0 g rest (fun st o t => o = .returned v ∧ va_F (fun _ => False) st t) (fun _ => False))
    (h : ∀ st t : State, st.heap = H → s.vm.Alike t.vm → va_F (fun _ => False) st t → Qa st (.returned v) t) : vx_Run p l e R s m args below meth c H locs cells slots 0 0 g rest Qa XC free := by
  intro T hT X
  obtain ⟨v9, st₀, t, T', L, h0, X', hL, e1, e2, ⟨hv, hF⟩, st⟩ := hr T hT X
  cases hv
  exact Or.inl ⟨_, st₀, t, T', L, h0, X', fun q hq => (hL q hq).elim, e1, e2, h st₀ t h0 (by rw [← e2]; exact X'.warmed.alike) hF, st⟩
variable {cc bytes : ByteArray} {nL idx maxL n : Nat} {own : String} {y : MethodName} {ret : Option FieldType} {rm : Room} {As : List Value} {P : State → Prop}
/-- its call: of a class' own, of an object -/
theorem ro_S (S : CallFix p m c cc nL s args TG own) (hM : roMet l y bytes maxL ret rm As P v) (hbl : FrameBlind (va_Pc As P)) (hd : decode cc pc = .ok (.invokestatic idx, 3)) (hcode : Cond.code y bytes maxL ret ∈ TG) (hlink : Cond.methodLink own idx y ∈ TG) (hst : Cond.static y ∈ TG) (hini : Cond.initialized y.cls ∈ TG)
    (hy : y.cls ≠ "java/lang/invoke/MethodHandle" ∧ y.cls ≠ "java/lang/invoke/VarHandle" ∧ (parseMethodDescriptor y.desc).map (fun d => d.parameters.length) = some n) (hR : rm.frames + 1 ≤ R.frames ∧ 8 + (maxL + 11) + rm.locals ≤ R.locals) (h0 : rm.cells = 0 ∧ rm.slots = 0) (hP : ∀ U : State, U.heap = H → s.WarmedH U.vm → P U) (hn : As.length = n) (hls : ls.size = nL) (hr : (rest.map fun v => v.category).sum ≤ 8) (hc : cells ≤ R.cells ∧ slots ≤ R.slots) :
    va_Run p l e R s m args below meth c H locs cells slots 0 0 (F0 m pc ls (As.reverse ++ rest)) rest (fun st o t => o = .returned v ∧ va_F (fun _ => False) st t) (fun _ => False) := by
  have hts := S.2.2.2.2
  have cb := callB_of (own := own) (index := idx) (R := R) (rm := rm) (mc := 0) (ms := 0) n hts (TG_code hcode) rfl h0.1 h0.2 (hts _ hini) (hts _ hlink) hy hR
  exact va_runS S hM ⟨cb, hts _ hst⟩ ⟨hbl, fun U hU hW => ⟨rfl, hP U hU hW⟩⟩ rfl hn hls rfl (room8 hr) hd ⟨hc.1, hc.2⟩
theorem ro_V {b : Nat} (S : CallFix p m c cc nL s args TG own) (hM : roMet l y bytes maxL ret rm (.ref b :: As) P v) (hbl : FrameBlind (va_Pc (.ref b :: As) P)) (hd : decode cc pc = .ok (.invokevirtual idx, 3)) (hcode : Cond.code y bytes maxL ret ∈ TG) (hlink : Cond.methodLink own idx y ∈ TG) (hin : Cond.instanceMethod y ∈ TG) (hsel : Cond.selects y.cls y y ∈ TG) (hini : Cond.initialized y.cls ∈ TG)
    (hy : y.cls ≠ "java/lang/invoke/MethodHandle" ∧ y.cls ≠ "java/lang/invoke/VarHandle" ∧ (parseMethodDescriptor y.desc).map (fun d => d.parameters.length) = some n) (hR : rm.frames + 1 ≤ R.frames ∧ 8 + (maxL + 11) + rm.locals ≤ R.locals) (h0 : rm.cells = 0 ∧ rm.slots = 0) (hrv : ∃ cell : Cell, H[b]? = some cell ∧ cell.vm.isStatics = false ∧ s.vm.findClass y.cls = some cell.cls) (hP : ∀ U : State, U.heap = H → s.WarmedH U.vm → P U) (hn : As.length = n) (hls : ls.size = nL) (hr : (rest.map fun v => v.category).sum ≤ 8) (hc : cells ≤ R.cells ∧ slots ≤ R.slots) :
    va_Run p l e R s m args below meth c H locs cells slots 0 0 (F0 m pc ls (As.reverse ++ .ref b :: rest)) rest (fun st o t => o = .returned v ∧ va_F (fun _ => False) st t) (fun _ => False) := by
  have hts := S.2.2.2.2
  have cb := callB_of (own := own) (index := idx) (R := R) (rm := rm) (mc := 0) (ms := 0) n hts (TG_code hcode) rfl h0.1 h0.2 (hts _ hini) (hts _ hlink) hy hR
  exact va_runV S hM ⟨cb, hts _ hin, hts _ hsel⟩ ⟨hbl, hrv, fun U hU hW => ⟨rfl, hP U hU hW⟩⟩ rfl hn hls rfl (room8 hr) hd ⟨hc.1, hc.2⟩
end RoB
theorem wS_38 : Cond.fieldLink RJ0 38 RJ0 "COMPACT_STRINGS" "Z" ∈ TG := TG_of (List.mem_of_getElem? (i := 990) (by decide +kernel)) (by decide +kernel)
theorem wS_9 : Cond.fieldLink RJ0 9 RJ0 "value" "[B" ∈ TG := TG_of (List.mem_of_getElem? (i := 1949) (by decide +kernel)) (by decide +kernel)
theorem wS_15 : Cond.fieldLink RJ0 15 RJ0 "coder" "B" ∈ TG := TG_of (List.mem_of_getElem? (i := 1950) (by decide +kernel)) (by decide +kernel)
theorem wS_1053 : Cond.fieldLink RJ0 1053 clPre "SIOOBE_FORMATTER" dBiF ∈ TG := TG_of (List.mem_of_getElem? (i := 1006) (by decide +kernel)) (by decide +kernel)
abbrev rmS1 : Room := ({ frames := 1, cells := 0, slots := 0, locals := 20 } : Room)
abbrev rmS2 : Room := ({ frames := 2, cells := 0, slots := 0, locals := 42 } : Room)
abbrev rmS3 : Room := ({ frames := 3, cells := 0, slots := 0, locals := 63 } : Room)
abbrev rmS4 : Room := ({ frames := 4, cells := 0, slots := 0, locals := 84 } : Room)
theorem sS0 {A : Nat → Prop} {H0 H : Heap} {locs : List Loc} (h : va_S (fun _ => False) H0 H locs) : va_S A H0 H locs := ⟨h.1, fun q h1 _ => h.2.1 q h1 id, fun q hq => (h.2.2 q hq).elim⟩
section Str
variable {l : Launch} {adK adV : Nat → Nat} {A : Nat → Prop} {i k : Nat}
theorem c_coder (hi : i < 6) : roMet l yJ0_coder_7d493 cJ0_coder_7d493 1 (some .byte) rmS1 [.ref (adK i)] (stQ adK adV A) (some (.int 0)) := by
  refine Met.ofW (cc := cJ0_coder_7d493) (maxL := 1) (ret := some .byte) (by decide) rfl ?_
  intro p e s m args below meth c s₁ B hml hv
  obtain ⟨rfl, hv⟩ := hv
  obtain ⟨hS6, hZ, -⟩ := hv
  have hx := B.exec
  have hb := B.bytes
  have hr := B.returns
  have hts : ∀ w ∈ TG, w.before [Value.ref (adK i)].toArray s = true := fun w hw => atoms_spec (ws := Cond.code yJ0_coder_7d493 cJ0_coder_7d493 1 (some .byte) :: TG) B.pre w (List.mem_cons_of_mem _ hw)
  have hown : s.vm.findClass RJ0 = some m.cls := findClass_of_methodNamed B.named
  have hS : va_S A s.heap s.heap [] := va_S.rf
  have hl := lv_entry ([Value.ref (adK i)]) (n := 1) (Nat.le_of_ble_eq_true rfl)
  rw [lg_entry_eq]
  generalize (lg_sl ([Value.ref (adK i)]) ++ List.replicate (1 - (lg_sl ([Value.ref (adK i)])).length) Slot.unset).toArray = ls at hl ⊢
  have hl : lv_has ls 1 [(0, .ref (adK i))] := hl
  refine va_gets hx hb hZ hS hown (hts _ wS_38) (fun _ h => h) (show decode cJ0_coder_7d493 0 = .ok (.getstatic 38, 3) by decide +kernel) ?_
  refine lv_if_eq (tgt := 13) hx hb (show decode cJ0_coder_7d493 3 = .ok (.ifCond .eq 10, 3) by decide +kernel) (by decide) (fun q => absurd q (by decide)) (fun _ => ?_)
  refine lv_aload_n hx hb (show decode cJ0_coder_7d493 6 = .ok (.aload_n 0, 1) by decide +kernel) rfl (lv_at hl 0 rfl) ?_
  refine vk_getf hx hb (hS6.1 i hi).2.1 hS hown (hts _ wS_15) (fun _ h => h) (show decode cJ0_coder_7d493 7 = .ok (.getfield 15, 3) by decide +kernel) ?_
  refine lv_goto (tgt := 14) hx hb (show decode cJ0_coder_7d493 10 = .ok (.goto 4, 3) by decide +kernel) (by decide) ?_
  exact W.zret hx hb hr (by decide) (fun t ht hW => ⟨rfl, by rw [ht]; exact Nat.le_refl _, fun q _ _ => by rw [ht]⟩) (fun _ h => by cases h) (show decode cJ0_coder_7d493 14 = .ok (.ireturn, 1) by decide +kernel) B.notSynchronized
theorem c_latin (hi : i < 6) : roMet l yJ0_isLatin1_aae02 cJ0_isLatin1_aae02 1 (some .boolean) rmS1 [.ref (adK i)] (stQ adK adV A) (some (.int 1)) := by
  refine Met.ofW (cc := cJ0_isLatin1_aae02) (maxL := 1) (ret := some .boolean) (by decide) rfl ?_
  intro p e s m args below meth c s₁ B hml hv
  obtain ⟨rfl, hv⟩ := hv
  obtain ⟨hS6, hZ, -⟩ := hv
  have hx := B.exec
  have hb := B.bytes
  have hr := B.returns
  have hts : ∀ w ∈ TG, w.before [Value.ref (adK i)].toArray s = true := fun w hw => atoms_spec (ws := Cond.code yJ0_isLatin1_aae02 cJ0_isLatin1_aae02 1 (some .boolean) :: TG) B.pre w (List.mem_cons_of_mem _ hw)
  have hown : s.vm.findClass RJ0 = some m.cls := findClass_of_methodNamed B.named
  have hS : va_S A s.heap s.heap [] := va_S.rf
  have hl := lv_entry ([Value.ref (adK i)]) (n := 1) (Nat.le_of_ble_eq_true rfl)
  rw [lg_entry_eq]
  generalize (lg_sl ([Value.ref (adK i)]) ++ List.replicate (1 - (lg_sl ([Value.ref (adK i)])).length) Slot.unset).toArray = ls at hl ⊢
  have hl : lv_has ls 1 [(0, .ref (adK i))] := hl
  refine va_gets hx hb hZ hS hown (hts _ wS_38) (fun _ h => h) (show decode cJ0_isLatin1_aae02 0 = .ok (.getstatic 38, 3) by decide +kernel) ?_
  refine lv_if_eq (tgt := 17) hx hb (show decode cJ0_isLatin1_aae02 3 = .ok (.ifCond .eq 14, 3) by decide +kernel) (by decide) (fun q => absurd q (by decide)) (fun _ => ?_)
  refine lv_aload_n hx hb (show decode cJ0_isLatin1_aae02 6 = .ok (.aload_n 0, 1) by decide +kernel) rfl (lv_at hl 0 rfl) ?_
  refine vk_getf hx hb (hS6.1 i hi).2.1 hS hown (hts _ wS_15) (fun _ h => h) (show decode cJ0_isLatin1_aae02 7 = .ok (.getfield 15, 3) by decide +kernel) ?_
  refine lv_if_ne (tgt := 17) hx hb (show decode cJ0_isLatin1_aae02 10 = .ok (.ifCond .ne 7, 3) by decide +kernel) (by decide) (fun q => absurd rfl q) (fun _ => ?_)
  refine lv_iconst (v := 1) hx hb (show decode cJ0_isLatin1_aae02 13 = .ok (.iconst 1, 1) by decide +kernel) (by decide) ?_
  refine lv_goto (tgt := 18) hx hb (show decode cJ0_isLatin1_aae02 14 = .ok (.goto 4, 3) by decide +kernel) (by decide) ?_
  exact W.zret hx hb hr (by decide) (fun t ht hW => ⟨rfl, by rw [ht]; exact Nat.le_refl _, fun q _ _ => by rw [ht]⟩) (fun _ h => by cases h) (show decode cJ0_isLatin1_aae02 18 = .ok (.ireturn, 1) by decide +kernel) B.notSynchronized
theorem c_ck3 {z n : Int32} {r : Value} (hr0 : r = .null ∨ ∃ t, r = .ref t) (h1 : ¬ z < 0) (h2 : z < n) : roMet l yJ3_checkIndex_8e157 cJ3_checkIndex_8e157 3 (some .int) rmS1 [.int z, .int n, r] (fun _ => True) (some (.int z)) := by
  refine Met.ofW (cc := cJ3_checkIndex_8e157) (maxL := 3) (ret := some .int) (by decide) rfl ?_
  intro p e s m args below meth c s₁ B hml hv
  obtain ⟨rfl, -⟩ := hv
  have hx := B.exec
  have hb := B.bytes
  have hr := B.returns
  have hlen : (lg_sl [Value.int z, Value.int n, r]).length ≤ 3 := by rcases hr0 with rfl | ⟨t, rfl⟩ <;> exact Nat.le_of_ble_eq_true rfl
  have hl := lv_entry ([Value.int z, Value.int n, r]) (n := 3) hlen
  rw [lg_entry_eq]
  generalize (lg_sl ([Value.int z, Value.int n, r]) ++ List.replicate (3 - (lg_sl ([Value.int z, Value.int n, r])).length) Slot.unset).toArray = ls at hl ⊢
  have hl : lv_has ls 3 [(0, .int z), (1, .int n), (2, r)] := by rcases hr0 with rfl | ⟨t, rfl⟩ <;> exact hl
  refine lv_iload_n hx hb (show decode cJ3_checkIndex_8e157 0 = .ok (.iload_n 0, 1) by decide +kernel) rfl (lv_at hl 0 rfl) ?_
  refine lv_if_lt (tgt := 9) hx hb (show decode cJ3_checkIndex_8e157 1 = .ok (.ifCond .lt 8, 3) by decide +kernel) (by decide) (fun q => absurd q h1) (fun _ => ?_)
  refine lv_iload_n hx hb (show decode cJ3_checkIndex_8e157 4 = .ok (.iload_n 0, 1) by decide +kernel) rfl (lv_at hl 0 rfl) ?_
  refine lv_iload_n hx hb (show decode cJ3_checkIndex_8e157 5 = .ok (.iload_n 1, 1) by decide +kernel) rfl (lv_at hl 1 rfl) ?_
  refine lv_icmp_lt (tgt := 16) hx hb (show decode cJ3_checkIndex_8e157 6 = .ok (.if_icmp .lt 10, 3) by decide +kernel) (by decide) (fun _ => ?_) (fun q => absurd h2 q)
  refine lv_iload_n hx hb (show decode cJ3_checkIndex_8e157 16 = .ok (.iload_n 0, 1) by decide +kernel) rfl (lv_at hl 0 rfl) ?_
  exact W.iret hx hb hr (fun t ht hW => ⟨rfl, by rw [ht]; exact Nat.le_refl _, fun q _ _ => by rw [ht]⟩) (fun _ h => by cases h) (show decode cJ3_checkIndex_8e157 17 = .ok (.ireturn, 1) by decide +kernel) B.notSynchronized
theorem c_ck2 {z n : Int32} (h1 : ¬ z < 0) (h2 : z < n) : roMet l yJ0_checkIndex_df160 cJ0_checkIndex_df160 2 none rmS2 [.int z, .int n] (stQ adK adV A) none := by
  refine Met.ofW (cc := cJ0_checkIndex_df160) (maxL := 2) (ret := none) (by decide) rfl ?_
  intro p e s m args below meth c s₁ B hml hv
  obtain ⟨rfl, hv⟩ := hv
  obtain ⟨-, -, hZq⟩ := hv
  have hx := B.exec
  have hb := B.bytes
  have hr := B.returns
  have hts : ∀ w ∈ TG, w.before [Value.int z, Value.int n].toArray s = true := fun w hw => atoms_spec (ws := Cond.code yJ0_checkIndex_df160 cJ0_checkIndex_df160 2 none :: TG) B.pre w (List.mem_cons_of_mem _ hw)
  have hown : s.vm.findClass RJ0 = some m.cls := findClass_of_methodNamed B.named
  have hS : va_S A s.heap s.heap [] := va_S.rf
  have hC : CallFix p m c cJ0_checkIndex_df160 2 s [Value.int z, Value.int n].toArray TG RJ0 := ⟨hx, hb, hml, hown, hts⟩
  have hl := lv_entry ([Value.int z, Value.int n]) (n := 2) (Nat.le_of_ble_eq_true rfl)
  rw [lg_entry_eq]
  generalize (lg_sl ([Value.int z, Value.int n]) ++ List.replicate (2 - (lg_sl ([Value.int z, Value.int n])).length) Slot.unset).toArray = ls at hl ⊢
  have hl : lv_has ls 2 [(0, .int z), (1, .int n)] := hl
  refine lv_iload_n hx hb (show decode cJ0_checkIndex_df160 0 = .ok (.iload_n 0, 1) by decide +kernel) rfl (lv_at hl 0 rfl) ?_
  refine lv_iload_n hx hb (show decode cJ0_checkIndex_df160 1 = .ok (.iload_n 1, 1) by decide +kernel) rfl (lv_at hl 1 rfl) ?_
  have K : ∀ r : Value, (r = .null ∨ ∃ t, r = .ref t) → W p l e (headSpec (Cond.code yJ0_checkIndex_df160 cJ0_checkIndex_df160 2 none :: TG) rmS2).room s m [Value.int z, Value.int n].toArray below meth c s.heap [] 0 0 (MQ below (fun _ st o t => o = .returned none ∧ va_F (fun _ => False) st t) [Value.int z, Value.int n].toArray s 0 0 (fun _ => False)) (F0 m 5 ls [r, .int n, .int z]) := by
    intro r hr0
    refine ro_go (ro_S (n := 3) (As := [.int z, .int n, r]) (rest := []) hC (c_ck3 hr0 h1 h2) rT_blind (show decode cJ0_checkIndex_df160 5 = .ok (.invokestatic 1059, 3) by decide +kernel) wJ3_checkIndex_8e157_c wJ0_m1059 wJ3_checkIndex_8e157_t wJ3_z (by decide +kernel) ⟨Nat.le_of_ble_eq_true rfl, Nat.le_of_ble_eq_true rfl⟩ ⟨rfl, rfl⟩ (fun _ _ _ => trivial) rfl hl.1 (Nat.le_of_ble_eq_true rfl) ⟨Nat.le_refl _, Nat.le_refl _⟩) (A0 := fun _ => False) va_S.rf (fun H1 locs1 hS1 => ?_)
    refine lv_pop hx hb (show decode cJ0_checkIndex_df160 8 = .ok (.pop, 1) by decide +kernel) rfl ?_
    exact W.vret hx hb hr (fun t ht hW => ⟨rfl, by rw [ht]; exact hS1.1, fun q h1 h2 => by rw [ht]; exact hS1.2.1 q h1 h2⟩) (fun q hq => hS1.2.2 q hq) (show decode cJ0_checkIndex_df160 9 = .ok (.return_, 1) by decide +kernel) B.notSynchronized
  rcases hZq with hZ | ⟨t, hZ⟩
  · exact va_gets hx hb hZ hS hown (hts _ wS_1053) (fun _ h => h) (show decode cJ0_checkIndex_df160 2 = .ok (.getstatic 1053, 3) by decide +kernel) (K _ (Or.inl rfl))
  · exact va_gets hx hb hZ hS hown (hts _ wS_1053) (fun _ h => h) (show decode cJ0_checkIndex_df160 2 = .ok (.getstatic 1053, 3) by decide +kernel) (K _ (Or.inr ⟨t, rfl⟩))
theorem bt_ok : ∀ i, i < 6 → ∀ k, k < lenPS.getD i 0 → ((((bytPS.getD i []).getD k 0) &&& 255).toUInt32 % 65536).toInt32 = (bytPS.getD i []).getD k 0 ∧ narrow .char (.int ((bytPS.getD i []).getD k 0)) = .int ((bytPS.getD i []).getD k 0) := by decide +kernel
theorem ln_ok : ∀ i, i < 6 → lenPS.getD i 0 < 10 := by decide
theorem c_lat (hi : i < 6) (hk : k < lenPS.getD i 0) : roMet l yJ1_charAt_3b067 cJ1_charAt_3b067 2 (some .char) rmS3 [.ref (adV i), .int (nI k)] (stQ adK adV A) (some (.int ((bytPS.getD i []).getD k 0))) := by
  refine Met.ofW (cc := cJ1_charAt_3b067) (maxL := 2) (ret := some .char) (by decide) rfl ?_
  intro p e s m args below meth c s₁ B hml hv
  obtain ⟨rfl, hv⟩ := hv
  have hT := (hv.1.1 i hi).2.2.2
  have hx := B.exec
  have hb := B.bytes
  have hr := B.returns
  have n10 := ln_ok i hi
  have hts : ∀ w ∈ TG, w.before [Value.ref (adV i), Value.int (nI k)].toArray s = true := fun w hw => atoms_spec (ws := Cond.code yJ1_charAt_3b067 cJ1_charAt_3b067 2 (some .char) :: TG) B.pre w (List.mem_cons_of_mem _ hw)
  have hown : s.vm.findClass RJ1 = some m.cls := findClass_of_methodNamed B.named
  have hC : CallFix p m c cJ1_charAt_3b067 2 s [Value.ref (adV i), Value.int (nI k)].toArray TG RJ1 := ⟨hx, hb, hml, hown, hts⟩
  have hl := lv_entry ([Value.ref (adV i), Value.int (nI k)]) (n := 2) (Nat.le_of_ble_eq_true rfl)
  rw [lg_entry_eq]
  generalize (lg_sl ([Value.ref (adV i), Value.int (nI k)]) ++ List.replicate (2 - (lg_sl ([Value.ref (adV i), Value.int (nI k)])).length) Slot.unset).toArray = ls at hl ⊢
  have hl : lv_has ls 2 [(0, .ref (adV i)), (1, .int (nI k))] := hl
  refine lv_iload_n hx hb (show decode cJ1_charAt_3b067 0 = .ok (.iload_n 1, 1) by decide +kernel) rfl (lv_at hl 1 rfl) ?_
  refine lv_aload_n hx hb (show decode cJ1_charAt_3b067 1 = .ok (.aload_n 0, 1) by decide +kernel) rfl (lv_at hl 0 rfl) ?_
  refine va_tlen (v := nI (lenPS.getD i 0)) hx hb hT va_S.rf rfl (show decode cJ1_charAt_3b067 2 = .ok (.arraylength, 1) by decide +kernel) ?_
  refine ro_go (ro_S (n := 2) (As := [.int (nI k), .int (nI (lenPS.getD i 0))]) (rest := []) hC (c_ck2 (adK := adK) (adV := adV) (A := A) (fun q => (m_lt0 (by omega)).mp q) ((m_lt (by omega) (by omega)).mpr hk)) stQ_blind (show decode cJ1_charAt_3b067 3 = .ok (.invokestatic 9, 3) by decide +kernel) wJ0_checkIndex_df160_c wJ1_m9 wJ0_checkIndex_df160_t wJ0_z (by decide +kernel) ⟨Nat.le_of_ble_eq_true rfl, Nat.le_of_ble_eq_true rfl⟩ ⟨rfl, rfl⟩ (fun U hU hW => by
    show stP adK adV A U U.heap
    rw [hU]; exact hv.moved hW.alike) rfl hl.1 (Nat.le_of_ble_eq_true rfl) ⟨Nat.le_refl _, Nat.le_refl _⟩) (A0 := fun _ => False) va_S.rf (fun H1 locs1 hS1 => ?_)
  refine lv_aload_n hx hb (show decode cJ1_charAt_3b067 6 = .ok (.aload_n 0, 1) by decide +kernel) rfl (lv_at hl 0 rfl) ?_
  refine lv_iload_n hx hb (show decode cJ1_charAt_3b067 7 = .ok (.iload_n 1, 1) by decide +kernel) rfl (lv_at hl 1 rfl) ?_
  refine va_tb (v := .int ((bytPS.getD i []).getD k 0)) hx hb hT (sS0 hS1) ((m_in (by omega)).mpr hk) (by rw [m_clamp (by omega)]) (show decode cJ1_charAt_3b067 8 = .ok (.baload, 1) by decide +kernel) ?_
  refine lv_sipush (v := 255) hx hb (show decode cJ1_charAt_3b067 9 = .ok (.sipush 255, 3) by decide +kernel) (by decide) ?_
  refine lv_iand hx hb (show decode cJ1_charAt_3b067 12 = .ok (.iand, 1) by decide +kernel) ?_
  refine lv_i2c hx hb (show decode cJ1_charAt_3b067 13 = .ok (.i2c, 1) by decide +kernel) (bt_ok i hi k hk).1 ?_
  exact W.zret hx hb hr (bt_ok i hi k hk).2 (fun t ht hW => ⟨rfl, by rw [ht]; exact hS1.1, fun q h1 h2 => by rw [ht]; exact hS1.2.1 q h1 h2⟩) (fun q hq => hS1.2.2 q hq) (show decode cJ1_charAt_3b067 14 = .ok (.ireturn, 1) by decide +kernel) B.notSynchronized
theorem c_charAt (hi : i < 6) (hk : k < lenPS.getD i 0) : roMet l yJ0_charAt_5068e cJ0_charAt_5068e 2 (some .char) rmS4 [.ref (adK i), .int (nI k)] (stQ adK adV A) (some (.int ((bytPS.getD i []).getD k 0))) := by
  refine Met.ofW (cc := cJ0_charAt_5068e) (maxL := 2) (ret := some .char) (by decide) rfl ?_
  intro p e s m args below meth c s₁ B hml hv
  obtain ⟨rfl, hv⟩ := hv
  have hO := hv.1.1 i hi
  have hx := B.exec
  have hb := B.bytes
  have hr := B.returns
  have hts : ∀ w ∈ TG, w.before [Value.ref (adK i), Value.int (nI k)].toArray s = true := fun w hw => atoms_spec (ws := Cond.code yJ0_charAt_5068e cJ0_charAt_5068e 2 (some .char) :: TG) B.pre w (List.mem_cons_of_mem _ hw)
  have hown : s.vm.findClass RJ0 = some m.cls := findClass_of_methodNamed B.named
  have hC : CallFix p m c cJ0_charAt_5068e 2 s [Value.ref (adK i), Value.int (nI k)].toArray TG RJ0 := ⟨hx, hb, hml, hown, hts⟩
  have hl := lv_entry ([Value.ref (adK i), Value.int (nI k)]) (n := 2) (Nat.le_of_ble_eq_true rfl)
  rw [lg_entry_eq]
  generalize (lg_sl ([Value.ref (adK i), Value.int (nI k)]) ++ List.replicate (2 - (lg_sl ([Value.ref (adK i), Value.int (nI k)])).length) Slot.unset).toArray = ls at hl ⊢
  have hl : lv_has ls 2 [(0, .ref (adK i)), (1, .int (nI k))] := hl
  refine lv_aload_n hx hb (show decode cJ0_charAt_5068e 0 = .ok (.aload_n 0, 1) by decide +kernel) rfl (lv_at hl 0 rfl) ?_
  refine ro_go (ro_V (n := 0) (As := []) (rest := []) hC (c_latin (adK := adK) (adV := adV) (A := A) hi) stQ_blind (show decode cJ0_charAt_5068e 1 = .ok (.invokevirtual 492, 3) by decide +kernel) wJ0_isLatin1_aae02_c wJ0_m492 wJ0_isLatin1_aae02_i wJ0_isLatin1_aae02_s wJ0_z (by decide +kernel) ⟨Nat.le_of_ble_eq_true rfl, Nat.le_of_ble_eq_true rfl⟩ ⟨rfl, rfl⟩ (vk_recv hv.1 hi va_S.rf) (fun U hU hW => by
    show stP adK adV A U U.heap
    rw [hU]; exact hv.moved hW.alike) rfl hl.1 (Nat.le_of_ble_eq_true rfl) ⟨Nat.le_refl _, Nat.le_refl _⟩) (A0 := fun _ => False) va_S.rf (fun H1 locs1 hS1 => ?_)
  refine lv_if_eq (tgt := 16) hx hb (show decode cJ0_charAt_5068e 4 = .ok (.ifCond .eq 12, 3) by decide +kernel) (by decide) (fun q => absurd q (by decide)) (fun _ => ?_)
  refine lv_aload_n hx hb (show decode cJ0_charAt_5068e 7 = .ok (.aload_n 0, 1) by decide +kernel) rfl (lv_at hl 0 rfl) ?_
  refine vk_getf hx hb hO.2.2.1 (sS0 hS1) hown (hts _ wS_9) (fun _ h => h) (show decode cJ0_charAt_5068e 8 = .ok (.getfield 9, 3) by decide +kernel) ?_
  refine lv_iload_n hx hb (show decode cJ0_charAt_5068e 11 = .ok (.iload_n 1, 1) by decide +kernel) rfl (lv_at hl 1 rfl) ?_
  refine ro_go (ro_S (n := 2) (As := [.ref (adV i), .int (nI k)]) (rest := []) hC (c_lat (adK := adK) (adV := adV) (A := A) hi hk) stQ_blind (show decode cJ0_charAt_5068e 12 = .ok (.invokestatic 495, 3) by decide +kernel) wJ1_charAt_3b067_c wJ0_m495 wJ1_charAt_3b067_t wJ1_z (by decide +kernel) ⟨Nat.le_of_ble_eq_true rfl, Nat.le_of_ble_eq_true rfl⟩ ⟨rfl, rfl⟩ (fun U hU hW => by
    show stP adK adV A U U.heap
    rw [hU]; exact (stP.kept hv (fun a h1 _ => hS1.2.1 a h1 id)).moved hW.alike) rfl hl.1 (Nat.le_of_ble_eq_true rfl) ⟨Nat.le_refl _, Nat.le_refl _⟩) hS1 (fun H2 locs2 hS2 => ?_)
  exact W.zret hx hb hr (bt_ok i hi k hk).2 (fun t ht hW => ⟨rfl, by rw [ht]; exact hS2.1, fun q h1 h2 => by rw [ht]; exact hS2.2.1 q h1 h2⟩) (fun q hq => hS2.2.2 q hq) (show decode cJ0_charAt_5068e 15 = .ok (.ireturn, 1) by decide +kernel) B.notSynchronized
theorem sh_ok : ∀ i, i < 6 → nI (lenPS.getD i 0) >>> ((0 : Int32) &&& 31) = nI (lenPS.getD i 0) := by decide +kernel
theorem c_len (hi : i < 6) : roMet l yJ0_length_8abf5 cJ0_length_8abf5 1 (some .int) rmS4 [.ref (adK i)] (stQ adK adV A) (some (.int (nI (lenPS.getD i 0)))) := by
  refine Met.ofW (cc := cJ0_length_8abf5) (maxL := 1) (ret := some .int) (by decide) rfl ?_
  intro p e s m args below meth c s₁ B hml hv
  obtain ⟨rfl, hv⟩ := hv
  have hO := hv.1.1 i hi
  have hx := B.exec
  have hb := B.bytes
  have hr := B.returns
  have hts : ∀ w ∈ TG, w.before [Value.ref (adK i)].toArray s = true := fun w hw => atoms_spec (ws := Cond.code yJ0_length_8abf5 cJ0_length_8abf5 1 (some .int) :: TG) B.pre w (List.mem_cons_of_mem _ hw)
  have hown : s.vm.findClass RJ0 = some m.cls := findClass_of_methodNamed B.named
  have hC : CallFix p m c cJ0_length_8abf5 1 s [Value.ref (adK i)].toArray TG RJ0 := ⟨hx, hb, hml, hown, hts⟩
  have hl := lv_entry ([Value.ref (adK i)]) (n := 1) (Nat.le_of_ble_eq_true rfl)
  rw [lg_entry_eq]
  generalize (lg_sl ([Value.ref (adK i)]) ++ List.replicate (1 - (lg_sl ([Value.ref (adK i)])).length) Slot.unset).toArray = ls at hl ⊢
  have hl : lv_has ls 1 [(0, .ref (adK i))] := hl
  refine lv_aload_n hx hb (show decode cJ0_length_8abf5 0 = .ok (.aload_n 0, 1) by decide +kernel) rfl (lv_at hl 0 rfl) ?_
  refine vk_getf hx hb hO.2.2.1 va_S.rf hown (hts _ wS_9) (fun _ h => h) (show decode cJ0_length_8abf5 1 = .ok (.getfield 9, 3) by decide +kernel) ?_
  refine va_tlen (v := nI (lenPS.getD i 0)) hx hb hO.2.2.2 va_S.rf rfl (show decode cJ0_length_8abf5 4 = .ok (.arraylength, 1) by decide +kernel) ?_
  refine lv_aload_n hx hb (show decode cJ0_length_8abf5 5 = .ok (.aload_n 0, 1) by decide +kernel) rfl (lv_at hl 0 rfl) ?_
  refine ro_go (ro_V (n := 0) (As := []) (rest := [.int (nI (lenPS.getD i 0))]) hC (c_coder (adK := adK) (adV := adV) (A := A) hi) stQ_blind (show decode cJ0_length_8abf5 6 = .ok (.invokevirtual 335, 3) by decide +kernel) wJ0_coder_7d493_c wJ0_m335 wJ0_coder_7d493_i wJ0_coder_7d493_s wJ0_z (by decide +kernel) ⟨Nat.le_of_ble_eq_true rfl, Nat.le_of_ble_eq_true rfl⟩ ⟨rfl, rfl⟩ (vk_recv hv.1 hi va_S.rf) (fun U hU hW => by
    show stP adK adV A U U.heap
    rw [hU]; exact hv.moved hW.alike) rfl hl.1 (Nat.le_of_ble_eq_true rfl) ⟨Nat.le_refl _, Nat.le_refl _⟩) (A0 := fun _ => False) va_S.rf (fun H1 locs1 hS1 => ?_)
  refine lv_ishr hx hb (show decode cJ0_length_8abf5 9 = .ok (.ishr, 1) by decide +kernel) ?_
  rw [sh_ok i hi]
  exact W.iret hx hb hr (fun t ht hW => ⟨rfl, by rw [ht]; exact hS1.1, fun q h1 h2 => by rw [ht]; exact hS1.2.1 q h1 h2⟩) (fun q hq => hS1.2.2 q hq) (show decode cJ0_length_8abf5 10 = .ok (.ireturn, 1) by decide +kernel) B.notSynchronized
end Str
/-! .. as calls of the pure machine -/
section Csl
variable {p : Program} {l : Launch} {e : Env} {R : Room} {s : State} {m : MethodId} {args : Array Value} {below : List Frame} {meth : Method} {c : Code} {D : va_G} {cc : ByteArray} {nL pc idx : Nat} {own : String}
theorem cs_end {ad : Nat → Nat} {ca : Nat → ClassId} {L : Ly} {X : HX} {Y : HY} {Q : Qt} {H : Heap} {v : Option Value} {st t : State} (hnr : noRef v) (hQ : Q (.inl v) L X Y) (hK : va_K D vwCl (cT ca L) s) (hP : va_P D vwCl (cW ad ca L X Y) H) (hD : va_D (fun _ => True) (cW ad ca L X Y)) (h0 : st.heap = H) (hal : s.vm.Alike t.vm) (hF : va_F (fun _ => False) st t) : pmQc D ad ca L.length (va_A (cW ad ca L X Y) H.size) Q #[] st (.returned v) t := by
  obtain ⟨f1, f2⟩ := hF
  rw [h0] at f1 f2
  refine ⟨⟨v, L, X, Y, rfl, hnr, hQ, ad, ca, exA_refl, Nat.le_refl _, hP.kept (fun k q hq => f2 _ (va_at_lt hP hq) id), va_K.moved hal hK, hD.self⟩, ?_⟩
  unfold va_F
  rw [h0]
  exact ⟨f1, fun q h1 _ => f2 q h1 id⟩
theorem csStrLen (S : CallFix p m c cc nL s args TG own) (hd : decode cc pc = .ok (.invokevirtual idx, 3)) (hlink : Cond.methodLink own idx yJ0_length_8abf5 ∈ TG) (hR : 13 ≤ R.frames ∧ 322 ≤ R.locals) : CallSnd p l e R s m args below meth c D nL pc tStrLen 1 0 0 none := by
  intro ad ca av L X Y Q rest H locs cells slots ls hT hn hrc hK hP hD hE hls hr hc hs
  obtain ⟨i, hi, rfl, hQ⟩ := hT
  obtain ⟨-, -, ⟨adV, h6⟩, -, ⟨hZ, hZq⟩, -, -⟩ := hE s (State.WarmedH.refl s)
  have hst : stP (fun i => ad (1000 + i)) adV (va_A (cW ad ca L X Y) H.size) s H := ⟨h6, hZ, hZq.1⟩
  obtain ⟨cell, g1, g2, g3, -⟩ := (h6.1 i hi).1
  exact ro_vx (ro_V (n := 0) (As := []) (rest := rest) S (c_len (adK := fun i => ad (1000 + i)) (adV := adV) (A := va_A (cW ad ca L X Y) H.size) hi) stQ_blind hd wJ0_length_8abf5_c hlink wJ0_length_8abf5_i wJ0_length_8abf5_s wJ0_z (by decide +kernel) ⟨by show 4 + 1 ≤ _; omega, by show 8 + (1 + 11) + 84 ≤ _; omega⟩ ⟨rfl, rfl⟩ ⟨cell, g1, g2, g3⟩ (fun U hU hW => by
    show stP _ adV _ U U.heap
    rw [hU]; exact hst.moved hW.alike) rfl hls hr ⟨hc, hs⟩) (fun st t h0 hal hF => cs_end (Or.inr (Or.inl ⟨_, rfl⟩)) hQ hK hP hD h0 hal hF)
theorem csStrAt (S : CallFix p m c cc nL s args TG own) (hd : decode cc pc = .ok (.invokevirtual idx, 3)) (hlink : Cond.methodLink own idx yJ0_charAt_5068e ∈ TG) (hR : 13 ≤ R.frames ∧ 322 ≤ R.locals) : CallSnd p l e R s m args below meth c D nL pc tStrAt 2 0 0 none := by
  intro ad ca av L X Y Q rest H locs cells slots ls hT hn hrc hK hP hD hE hls hr hc hs
  obtain ⟨i, k, hi, hk, rfl, hQ⟩ := hT
  obtain ⟨-, -, ⟨adV, h6⟩, -, ⟨hZ, hZq⟩, -, -⟩ := hE s (State.WarmedH.refl s)
  have hst : stP (fun i => ad (1000 + i)) adV (va_A (cW ad ca L X Y) H.size) s H := ⟨h6, hZ, hZq.1⟩
  obtain ⟨cell, g1, g2, g3, -⟩ := (h6.1 i hi).1
  exact ro_vx (ro_V (n := 1) (As := [.int (nI k)]) (rest := rest) S (c_charAt (adK := fun i => ad (1000 + i)) (adV := adV) (A := va_A (cW ad ca L X Y) H.size) hi hk) stQ_blind hd wJ0_charAt_5068e_c hlink wJ0_charAt_5068e_i wJ0_charAt_5068e_s wJ0_z (by decide +kernel) ⟨by show 4 + 1 ≤ _; omega, by show 8 + (2 + 11) + 84 ≤ _; omega⟩ ⟨rfl, rfl⟩ ⟨cell, g1, g2, g3⟩ (fun U hU hW => by
    show stP _ adV _ U U.heap
    rw [hU]; exact hst.moved hW.alike) rfl hls hr ⟨hc, hs⟩) (fun st t h0 hal hF => cs_end (Or.inr (Or.inl ⟨_, rfl⟩)) hQ hK hP hD h0 hal hF)
end Csl
