/-! the steps that call nothing -/
/-- addresses behind a while: those of before, and where nothing was made all of them -/
def exA (ad ad0 : Nat → Nat) (ca ca0 : Nat → ClassId) (n0 n : Nat) : Prop := (∀ k, k < n0 ∨ 1000 ≤ k → ad k = ad0 k) ∧ (∀ k, k < n0 → ca k = ca0 k) ∧ (n = n0 → ad = ad0 ∧ ca = ca0)
/-- the world behind a method -/
def pmEnd (D : va_G) (ad0 : Nat → Nat) (ca0 : Nat → ClassId) (n0 : Nat) (A : Nat → Prop) (L : Ly) (X : HX) (Y : HY) (t : State) : Prop :=
  ∃ (ad : Nat → Nat) (ca : Nat → ClassId), exA ad ad0 ca ca0 n0 L.length ∧ n0 ≤ L.length ∧ va_P D vwCl (cW ad ca L X Y) t.heap ∧ va_K D vwCl (cT ca L) t ∧ va_D A (cW ad ca L X Y)
def noRef (v : Option Value) : Prop := v = none ∨ (∃ x : Int32, v = some (.int x)) ∨ ∃ x : Int64, v = some (.long x)
def pmQc (D : va_G) (ad0 : Nat → Nat) (ca0 : Nat → ClassId) (n0 : Nat) (A : Nat → Prop) (Q : Qt) : Array Value → State → Outcome → State → Prop := fun _ st o t =>
  (∃ (v : Option Value) (L : Ly) (X : HX) (Y : HY), o = .returned v ∧ noRef v ∧ Q (.inl v) L X Y ∧ pmEnd D ad0 ca0 n0 A L X Y t) ∧ va_F A st t
def pmXC (D : va_G) (ad0 : Nat → Nat) (ca0 : Nat → ClassId) (n0 : Nat) (A : Nat → Prop) (Q : Qt) : String → State → State → Prop := fun E st t =>
  (∃ (L : Ly) (X : HX) (Y : HY), Q (.inr E) L X Y ∧ pmEnd D ad0 ca0 n0 A L X Y t) ∧ va_F A st t
/-- what a body owes at a place -/
def pmPs (p : Program) (l : Launch) (e : Env) (R : Room) (s : State) (m : MethodId) (args : Array Value) (below : List Frame) (meth : Method) (c : Code) (D : va_G) (nL mc ms : Nat) (A : Nat → Prop) (ad0 : Nat → Nat) (ca0 : Nat → ClassId) (n0 : Nat) (Q : Qt) : Kt := fun pc lv st L X Y z =>
  ∀ (ad : Nat → Nat) (ca : Nat → ClassId) (H : Heap) (locs : List Loc) (ls : Array Slot), exA ad ad0 ca ca0 n0 L.length → n0 ≤ L.length → va_K D vwCl (cT ca L) s → va_P D vwCl (cW ad ca L X Y) H → va_D A (cW ad ca L X Y) → va_S A s.heap H locs → lvOk ad ls nL lv →
    W p l e R s m args below meth c H locs z.1 z.2 (vx_MQ below (pmQc D ad0 ca0 n0 A Q) (pmXC D ad0 ca0 n0 A Q) args s mc ms A) (F0 m pc ls (st.map (cv ad)))
theorem int_add_toNat {pc t : Nat} {off : Int} (h : (t : Int) = (pc : Int) + off) : (pc : Int) + off = (t : Int) := h.symm
theorem bool01 {x : Int32} (h : x = 0 ∨ x = 1) : narrow .boolean (.int x) = .int x ∧ fits .boolean (.int x) = true := by
  rcases h with rfl | rfl <;> exact ⟨by decide, by decide⟩
theorem skOk_0 {ci j : Nat} (h : skOk ci j (.inl 0) = true) : tyF ci j = .int := by
  unfold skOk at h
  split at h <;> first | (cases h; done) | assumption | simp_all
theorem skOk_1 {ci j : Nat} (h : skOk ci j (.inl 1) = true) : tyF ci j = .long := by
  unfold skOk at h
  split at h <;> first | (cases h; done) | assumption | simp_all
theorem skOk_2 {ci j : Nat} (h : skOk ci j (.inl 2) = true) : tyF ci j = .boolean := by
  unfold skOk at h
  split at h <;> first | (cases h; done) | assumption | simp_all
theorem skOk_r {ci j : Nat} (h : skOk ci j (.inr none) = true) {v : Value} (hv : v = .null ∨ ∃ a, v = .ref a) : narrow (tyF ci j) v = v ∧ fits (tyF ci j) v = true := by
  have h2 : (∃ q, tyF ci j = .array q) ∨ ∃ q, tyF ci j = .object q := by
    unfold skOk at h
    split at h
    · simp_all
    · simp_all
    · simp_all
    · exact Or.inl ⟨_, by assumption⟩
    · exact Or.inr ⟨_, by assumption⟩
    · cases h
  rcases h2 with ⟨q, e⟩ | ⟨q, e⟩ <;> rw [e] <;> rcases hv with rfl | ⟨a, rfl⟩ <;> exact ⟨rfl, rfl⟩
section SndS
variable {p : Program} {l : Launch} {e : Env} {R : Room} {s : State} {m : MethodId} {args : Array Value} {below : List Frame} {meth : Method} {c : Code} {H : Heap} {locs : List Loc} {cells slots : Nat} {Q : State → Prop} {cc : ByteArray} {pc : Nat} {ls : Array Slot} {st : List Value} {x y : Int32} {off : Int} {t : Nat}
theorem snd_icmp (hx : p.tables.exec = Jvm.exec) (hb : c.code = cc) {cd : ClassFile.Cond} (hd : decode cc pc = .ok (.if_icmp cd off, 3)) (ht : (pc : Int) + off = (t : Int)) (k1 : icm cd x y → W p l e R s m args below meth c H locs cells slots Q (F0 m t ls st)) (k2 : ¬ icm cd x y → W p l e R s m args below meth c H locs cells slots Q (F0 m (pc + 3) ls st)) : W p l e R s m args below meth c H locs cells slots Q (F0 m pc ls (.int y :: .int x :: st)) := by
  cases cd with
  | eq => exact lv_icmp_eq hx hb hd ht k1 k2
  | ne => exact lv_icmp_ne hx hb hd ht k1 (fun q => k2 (fun h => h q))
  | lt => exact lv_icmp_lt hx hb hd ht k1 k2
  | ge => exact lv_icmp_ge hx hb hd ht k1 k2
  | gt => exact lv_icmp_gt hx hb hd ht k1 k2
  | le => exact lv_icmp_le hx hb hd ht k1 k2
theorem snd_if (hx : p.tables.exec = Jvm.exec) (hb : c.code = cc) {cd : ClassFile.Cond} (hd : decode cc pc = .ok (.ifCond cd off, 3)) (ht : (pc : Int) + off = (t : Int)) (k1 : icm cd x 0 → W p l e R s m args below meth c H locs cells slots Q (F0 m t ls st)) (k2 : ¬ icm cd x 0 → W p l e R s m args below meth c H locs cells slots Q (F0 m (pc + 3) ls st)) : W p l e R s m args below meth c H locs cells slots Q (F0 m pc ls (.int x :: st)) := by
  cases cd with
  | eq => exact lv_if_eq hx hb hd ht k1 k2
  | ne => exact lv_if_ne hx hb hd ht k1 (fun q => k2 (fun h => h q))
  | lt => exact lv_if_lt hx hb hd ht k1 k2
  | ge => exact lv_if_ge hx hb hd ht k1 k2
  | gt => exact lv_if_gt hx hb hd ht k1 k2
  | le => exact lv_if_le hx hb hd ht k1 k2
theorem snd_ts (hx : p.tables.exec = Jvm.exec) (hb : c.code = cc) {dflt lo hi : Int} {offs : Array Int} {len d : Nat} {ts : List Nat} {kc : Int32} (hd : decode cc pc = .ok (.tableswitch dflt lo hi offs, len)) (ht : tgOk (pc, .tableswitch dflt lo hi offs, len, d :: ts, kc) = true)
    (k1 : x.toInt < lo ∨ hi < x.toInt → W p l e R s m args below meth c H locs cells slots Q (F0 m d ls st)) (k2 : tswL (fun t => W p l e R s m args below meth c H locs cells slots Q (F0 m t ls st)) x lo ts) : W p l e R s m args below meth c H locs cells slots Q (F0 m pc ls (.int x :: st)) := by
  simp only [tgOk, List.map_cons, Bool.and_eq_true, decide_eq_true_eq, List.cons.injEq] at ht
  obtain ⟨⟨h0, h1⟩, h2⟩ := ht
  by_cases ho : x.toInt < lo ∨ hi < x.toInt
  · exact lv_tableOut hx hb hd ho h0.symm (k1 ho)
  · have hl1 : ¬ x.toInt < lo := fun q => ho (Or.inl q)
    have hl2 : ¬ hi < x.toInt := fun q => ho (Or.inr q)
    have hlen : ts.length = offs.size := by
      have := congrArg List.length h1
      simpa using this
    obtain ⟨j, hj⟩ : ∃ j : Nat, x.toInt = lo + j := ⟨(x.toInt - lo).toNat, by omega⟩
    have hjl : j < ts.length := by omega
    have key : ∀ (us : List Nat) (v : Int) (i : Nat) (hi : i < us.length), tswL (fun t => W p l e R s m args below meth c H locs cells slots Q (F0 m t ls st)) x v us → x.toInt = v + i → W p l e R s m args below meth c H locs cells slots Q (F0 m us[i] ls st) := by
      intro us
      induction us with
      | nil => intro v i hi; exact absurd hi (Nat.not_lt_zero _)
      | cons u us ih =>
        intro v i hi hk hv
        cases i with
        | zero => exact hk.1 (by simpa using hv)
        | succ i => exact ih (v + 1) i (by simpa using hi) hk.2 (by rw [hv]; push_cast; omega)
    have hoff : offs[j]? = some (offs[j]'(by omega)) := Array.getElem?_eq_getElem (by omega)
    have h3 : ((ts[j] : Nat) : Int) = (pc : Int) + offs[j]'(by omega) := by
      have h4 := congrArg (fun l => l[j]?) h1
      simp only [List.getElem?_map] at h4
      rw [List.getElem?_eq_getElem hjl] at h4
      rw [show offs.toList[j]? = some (offs[j]'(by omega)) by rw [Array.getElem?_toList]; exact hoff] at h4
      simpa using h4
    exact lv_tableIn hx hb hd hl1 hl2 (off := offs[j]'(by omega)) (tgt := ts[j]) (by rw [hj, show (lo + (j : Int) - lo).toNat = j by omega]; exact hoff) h3.symm (key ts lo j hjl k2 hj)
end SndS
