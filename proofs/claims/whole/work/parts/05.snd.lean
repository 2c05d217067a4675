/-! THE PURE MACHINE IS SOUND: its steps are the machine's -/
def lenI (i : Instr) : Nat := match i with
  | .iload _ | .lload _ | .aload _ | .istore _ | .lstore _ | .astore _ | .bipush _ | .ldc _ | .newarray _ => 2
  | .sipush _ | .iinc _ _ | .goto _ | .if_icmp _ _ | .ifCond _ _ | .ifnonnull _ | .getfield _ | .putfield _ | .invokevirtual _ | .invokestatic _ | .invokespecial _ | .new _ | .ldc_w _ | .ldc2_w _ => 3
  | _ => 1
def tgOk (q : Cd) : Bool := match q.2.1 with
  | .goto off => decide (q.2.2.2.1.map (fun t : Nat => (t : Int)) = [(q.1 : Int) + off])
  | .if_icmp _ off => decide (q.2.2.2.1.map (fun t : Nat => (t : Int)) = [(q.1 : Int) + off])
  | .ifCond _ off => decide (q.2.2.2.1.map (fun t : Nat => (t : Int)) = [(q.1 : Int) + off])
  | .ifnonnull off => decide (q.2.2.2.1.map (fun t : Nat => (t : Int)) = [(q.1 : Int) + off])
  | .tableswitch d lo hi offs => decide (q.2.2.2.1.map (fun t : Nat => (t : Int)) = ((q.1 : Int) + d) :: offs.toList.map (fun o => (q.1 : Int) + o)) && decide (hi = lo + offs.size - 1)
  | _ => true
def kcOk (i : Instr) (kc : Int32) : Bool := match i with
  | .iconst n => decide (Int32.ofInt n = kc)
  | .bipush n => decide ((Int8.ofInt n).toInt32 = kc)
  | .sipush n => decide ((Int16.ofInt n).toInt32 = kc)
  | .iinc _ n => decide (Int32.ofInt n = kc)
  | _ => true
def isTs (i : Instr) : Bool := match i with
  | .tableswitch _ _ _ _ => true
  | _ => false
def cdOk (cc : ByteArray) (l : List Cd) : Bool := l.all (fun q => decide (decode cc q.1 = .ok (q.2.1, q.2.2.1)) && (isTs q.2.1 || Nat.beq q.2.2.1 (lenI q.2.1)) && tgOk q && kcOk q.2.1 q.2.2.2.2)
theorem cdAt_in {l : List Cd} {pc : Nat} {q : Instr × Nat × List Nat × Int32} (h : cdAt l pc = some q) : (pc, q) ∈ l := by
  induction l with
  | nil => cases h
  | cons a l ih =>
    unfold cdAt at h
    split at h
    · rename_i e
      cases h
      rw [← e]
      exact List.mem_cons_self
    · exact List.mem_cons_of_mem _ (ih h)
theorem cdOk_at {cc : ByteArray} {l : List Cd} (hc : cdOk cc l = true) {pc len : Nat} {i : Instr} {tg : List Nat} {kc : Int32} (h : cdAt l pc = some (i, len, tg, kc)) : decode cc pc = .ok (i, len) ∧ (isTs i = true ∨ len = lenI i) ∧ tgOk (pc, i, len, tg, kc) = true ∧ kcOk i kc = true := by
  have h1 := List.all_eq_true.mp hc _ (cdAt_in h)
  simp only [Bool.and_eq_true, decide_eq_true_eq, Bool.or_eq_true] at h1
  refine ⟨h1.1.1.1, ?_, h1.1.2, h1.2⟩
  rcases h1.1.1.2 with q | q
  · exact Or.inl q
  · exact Or.inr (Nat.eq_of_beq_eq_true q)
section SndA
variable {p : Program} {l : Launch} {e : Env} {R : Room} {s : State} {m : MethodId} {args : Array Value} {below : List Frame} {meth : Method} {c : Code} {H : Heap} {locs : List Loc} {cells slots : Nat} {Q : State → Prop} {cc : ByteArray} {pc nL : Nat} {ls : Array Slot} {ad : Nat → Nat}
set_option maxHeartbeats 1000000 in
theorem snd_pure (hx : p.tables.exec = Jvm.exec) (hb : c.code = cc) {i : Instr} {len : Nat} {st st2 : List Value} (hd : decode cc pc = .ok (i, len)) (hl : isTs i = true ∨ len = lenI i) {kc : Int32} (hk : kcOk i kc = true) (h : pureI i kc st = some st2)
    (k : W p l e R s m args below meth c H locs cells slots Q (F0 m (pc + len) ls (st2.map (cv ad)))) : W p l e R s m args below meth c H locs cells slots Q (F0 m pc ls (st.map (cv ad))) := by
  unfold pureI at h
  split at h
  all_goals (try (split at h))
  all_goals first
    | (cases h; done)
    | skip
  all_goals (cases h; have hl := hl.resolve_left (fun z => Bool.false_ne_true z); subst hl)
  · exact lv_iconst hx hb hd (of_decide_eq_true hk) k
  · exact lv_lconst hx hb hd rfl k
  · exact lv_bipush hx hb hd (of_decide_eq_true hk) k
  · exact lv_sipush hx hb hd (of_decide_eq_true hk) k
  · exact lv_null hx hb hd k
  · exact lv_iadd hx hb hd k
  · exact lv_isub hx hb hd k
  · exact lv_imul hx hb hd k
  · exact lv_iand hx hb hd k
  · exact lv_ior hx hb hd k
  · exact lv_ixor hx hb hd k
  · exact lv_ishl hx hb hd k
  · exact lv_ishr hx hb hd k
  · exact lv_iushr hx hb hd rfl k
  · exact lv_ineg hx hb hd k
  · exact lv_ladd hx hb hd k
  · exact lv_lsub hx hb hd k
  · exact lv_land hx hb hd k
  · exact lv_lor hx hb hd k
  · exact lv_lxor hx hb hd k
  · exact lv_lshl hx hb hd rfl k
  · exact lv_lshr hx hb hd rfl k
  · exact lv_lushr hx hb hd rfl k
  · exact lv_lneg hx hb hd k
  · exact lv_i2l hx hb hd rfl k
  · exact lv_l2i hx hb hd rfl k
  · exact lv_i2b hx hb hd rfl k
  · exact lv_i2c hx hb hd rfl k
  · exact lv_dup hx hb hd rfl k
  · exact lv_dup hx hb hd rfl k
  · exact lv_dup2_11 hx hb hd rfl rfl k
  · exact lv_dup2_11 hx hb hd rfl rfl k
  · exact lv_dup2_2 hx hb hd rfl k
  · exact lv_pop hx hb hd rfl k
  · exact lv_pop2_2 hx hb hd rfl k
set_option maxHeartbeats 1000000 in
theorem snd_load (hx : p.tables.exec = Jvm.exec) (hb : c.code = cc) {i : Instr} {len : Nat} {lv : Lv} {v : Value} {st : List Value} (hd : decode cc pc = .ok (i, len)) (hl : isTs i = true ∨ len = lenI i) (hv : lvOk ad ls nL lv) (h : loadI i lv = some v)
    (k : W p l e R s m args below meth c H locs cells slots Q (F0 m (pc + len) ls ((v :: st).map (cv ad)))) : W p l e R s m args below meth c H locs cells slots Q (F0 m pc ls (st.map (cv ad))) := by
  unfold loadI at h
  split at h
  all_goals first
    | (cases h; done)
    | skip
  all_goals (split at h)
  all_goals first
    | (cases h; done)
    | skip
  all_goals (rename_i hq; have hq := hv.2.2.2 _ _ hq; cases h; have hl := hl.resolve_left (fun z => Bool.false_ne_true z); subst hl)
  · exact lv_iload hx hb hd hq k
  · exact lv_iload_n hx hb hd rfl hq k
  · exact lv_lload hx hb hd hq k
  · exact lv_lload_n hx hb hd rfl hq k
  · exact lv_aload hx hb hd hq k
  · exact lv_aload_n hx hb hd rfl hq k
set_option maxHeartbeats 1000000 in
theorem snd_store (hx : p.tables.exec = Jvm.exec) (hb : c.code = cc) {i : Instr} {len : Nat} {lv lv2 : Lv} {v : Value} {st : List Value} (hd : decode cc pc = .ok (i, len)) (hl : isTs i = true ∨ len = lenI i) (hv : lvOk ad ls nL lv) (h : storeI i lv v = some lv2)
    (k : ∀ ls2, lvOk ad ls2 nL lv2 → W p l e R s m args below meth c H locs cells slots Q (F0 m (pc + len) ls2 (st.map (cv ad)))) : W p l e R s m args below meth c H locs cells slots Q (F0 m pc ls ((v :: st).map (cv ad))) := by
  unfold storeI at h
  split at h
  all_goals first
    | (cases h; done)
    | skip
  all_goals (split at h)
  all_goals first
    | (cases h; done)
    | skip
  all_goals (split at h)
  all_goals first
    | (cases h; done)
    | skip
  all_goals (rename_i hq; rw [hv.1] at hq; cases h; have hl := hl.resolve_left (fun z => Bool.false_ne_true z); subst hl)
  · exact lv_istore hx hb hd hv.has hq rfl (fun ls2 h2 => k ls2 (hv.st1 h2))
  · exact lv_istore_n hx hb hd rfl hv.has hq rfl (fun ls2 h2 => k ls2 (hv.st1 h2))
  · exact lv_lstore hx hb hd hv.has hq rfl (fun ls2 h2 => k ls2 (hv.st2 h2))
  · exact lv_lstore_n hx hb hd rfl hv.has hq rfl (fun ls2 h2 => k ls2 (hv.st2 h2))
  · exact lv_astore hx hb hd hv.has hq rfl (fun ls2 h2 => k ls2 (hv.st1 h2))
  · exact lv_astore_n hx hb hd rfl hv.has hq rfl (fun ls2 h2 => k ls2 (hv.st1 h2))
end SndA
