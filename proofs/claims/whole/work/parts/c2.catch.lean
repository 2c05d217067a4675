/-! catching: a body with handlers -/
def fgt (lv : Lv) (i : Nat) : Lv := (cut1 lv i).set i none
theorem fgt_len (lv : Lv) (i : Nat) : (fgt lv i).length = lv.length := by simp [fgt, cut1_len]
theorem lvOk.st0 {ad : Nat → Nat} {ls ls' : Array Slot} {nL : Nat} {lv : Lv} {i : Nat} {w : Value} (h : lvOk ad ls nL lv) (h2 : lv_has ls' nL ((i, w) :: (cL ad lv).filter (fun q => !(q.1 == i) && !(q.1 + 1 == i && q.2.category == 2)))) : lvOk ad ls' nL (fgt lv i) := by
  refine ⟨by rw [fgt_len]; exact h.1, h2.1, h2.2.1, fun j w hj => ?_⟩
  unfold fgt at hj
  rw [ldv_set, cut1_len] at hj
  by_cases hij : i = j ∧ j < lv.length
  · rw [if_pos hij] at hj
    cases hj
  · rw [if_neg hij] at hj
    obtain ⟨a, b⟩ := cut1_ld hj
    have hne : ¬ j = i := fun e => hij ⟨e.symm, ldv_lt a⟩
    refine h2.2.2 (j, cv ad w) (List.mem_cons_of_mem _ (List.mem_filter.mpr ⟨cL_in a, ?_⟩))
    have hb : ¬ (j + 1 = i ∧ (cv ad w).category = 2) := by rw [cv_cat]; exact b
    simp only [Bool.and_eq_true, Bool.not_eq_true', beq_eq_false_iff_ne, ne_eq, Bool.and_eq_false_iff]
    refine ⟨hne, ?_⟩
    by_cases e : j + 1 = i
    · exact Or.inr (fun q => hb ⟨e, q⟩)
    · exact Or.inl e
/-- where an exception of a call goes on: the handler, its astore's length, the local -/
abbrev Hdl : Type := Nat → String → Option (Nat × Nat × Nat)
def hdQ (hd : Hdl) (K : Kt) (pc : Nat) (lv : Lv) (z : Nat × Nat) (ce : Ce) : Qt := fun res L X Y => match res with
  | .inr E => match hd pc E with
    | some q => K (q.1 + q.2.1) (fgt lv q.2.2) [] L X Y (z.1 + ce.2.2.2.1.1, z.2 + ce.2.2.2.1.2)
    | none => False
  | .inl _ => False
def stepW (g : Gm) (hd : Hdl) (Q : Qt) (K : Kt) (pc : Nat) (lv : Lv) (st : List Value) (L : Ly) (X : HX) (Y : HY) (z : Nat × Nat) : Prop :=
  match g.2.2.1 pc with
  | none => stepP g Q K pc lv st L X Y z
  | some ce => pmCall g (hdQ hd K pc lv z ce) K pc 3 lv st L X Y z
def WPw (g : Gm) (hd : Hdl) (Q : Qt) : Kt := fun pc lv st L X Y z => ∀ P : Kt, (∀ pc lv st L X Y z, stepW g hd Q P pc lv st L X Y z → P pc lv st L X Y z) → P pc lv st L X Y z
section WW
variable {g : Gm} {hd : Hdl} {Q : Qt} {pc len : Nat} {lv : Lv} {st r : List Value} {L : Ly} {X : HX} {Y : HY} {z : Nat × Nat} {tg : List Nat} {kc : Int32} {i : Instr} {v : Value} {a m : Nat} {x : Int32} {u : Int64} {off : Int}
theorem stepW_mono (hg : Gmono g) {K K' : Kt} (hK : ∀ pc lv st L X Y z, K pc lv st L X Y z → K' pc lv st L X Y z) (k : stepW g hd Q K pc lv st L X Y z) : stepW g hd Q K' pc lv st L X Y z := by
  unfold stepW at k ⊢
  split at k
  · exact stepP_mono hg (fun _ _ _ _ h => h) hK k
  · refine pmCall_mono hg (fun res L X Y h => ?_) hK k
    unfold hdQ at h ⊢
    split at h
    · split at h
      · exact hK _ _ _ _ _ _ _ h
      · exact h
    · exact h
theorem WPw.step (hg : Gmono g) (k : stepW g hd Q (WPw g hd Q) pc lv st L X Y z) : WPw g hd Q pc lv st L X Y z := fun P hP =>
  hP _ _ _ _ _ _ _ (stepW_mono hg (fun _ _ _ _ _ _ _ h => h P hP) k)
theorem WPw.stp (hg : Gmono g) (hn : g.2.2.1 pc = none) (k : stepP g Q (WPw g hd Q) pc lv st L X Y z) : WPw g hd Q pc lv st L X Y z := WPw.step hg (by unfold stepW; rw [hn]; exact k)
theorem w_call (hg : Gmono g) {ce : Ce} (hn : g.2.2.1 pc = some ce) (k : pmCall g (hdQ hd (WPw g hd Q) pc lv z ce) (WPw g hd Q) pc 3 lv st L X Y z) : WPw g hd Q pc lv st L X Y z := WPw.step hg (by unfold stepW; rw [hn]; exact k)
set_option maxHeartbeats 2000000 in
theorem w_load (hg : Gmono g) (n : Nat) (h0 : g.2.2.1 pc = none) (hc : cdAt g.1 pc = some (i, len, tg, kc)) (hl : loadI i lv = some v) (hn : pc + len = n) (k : WPw g hd Q n lv (v :: st) L X Y z) : WPw g hd Q pc lv st L X Y z := by
  subst hn
  refine WPw.stp hg h0 ?_
  unfold stepP
  simp only [hc]
  cases i <;> first | (cases hl; done) | (simp only [hl]; exact k)
set_option maxHeartbeats 2000000 in
theorem w_pure (hg : Gmono g) (n : Nat) (st2 : List Value) (h0 : g.2.2.1 pc = none) (hc : cdAt g.1 pc = some (i, len, tg, kc)) (hl : pureI i kc st = some st2) (hn : pc + len = n) (k : WPw g hd Q n lv st2 L X Y z) : WPw g hd Q pc lv st L X Y z := by
  subst hn
  refine WPw.stp hg h0 ?_
  unfold stepP
  simp only [hc]
  cases i <;> first | (cases hl; done) | (cases st <;> simp only [loadI, storeI, hl] <;> exact k)
theorem w_goto (hg : Gmono g) (n : Nat) (h0 : g.2.2.1 pc = none) (hc : cdAt g.1 pc = some (.goto off, len, [n], kc)) (k : WPw g hd Q n lv st L X Y z) : WPw g hd Q pc lv st L X Y z := WPw.stp hg h0 (by simp only [stepP, hc]; exact k)
theorem w_if (hg : Gmono g) (t n : Nat) {c : ClassFile.Cond} (h0 : g.2.2.1 pc = none) (hc : cdAt g.1 pc = some (.ifCond c off, len, [t], kc)) (hn : pc + len = n) (k1 : icm c x 0 → WPw g hd Q t lv r L X Y z) (k2 : ¬ icm c x 0 → WPw g hd Q n lv r L X Y z) : WPw g hd Q pc lv (.int x :: r) L X Y z := by
  subst hn
  exact WPw.stp hg h0 (by simp only [stepP, hc]; exact ⟨k1, k2⟩)
theorem w_last (hg : Gmono g) (n : Nat) (h0 : g.2.2.1 pc = none) (hc : cdAt g.1 pc = some (.lastore, len, tg, kc)) (hL : L[a]? = some (.inr (1, m))) (hn : pc + len = n) (h : vp_in x m) (k : WPw g hd Q n lv r L X (up2 Y a x.toNatClampNeg u) z) : WPw g hd Q pc lv (.long u :: .int x :: .ref a :: r) L X Y z := by
  subst hn
  exact WPw.stp hg h0 (by simp only [stepP, hc, hL]; exact ⟨h, k⟩)
theorem w_iret (hg : Gmono g) (h0 : g.2.2.1 pc = none) (hc : cdAt g.1 pc = some (.ireturn, len, tg, kc)) (hz : (Nat.ble z.1 (gMc g) && Nat.ble z.2 (gMs g)) = true) (hbo : g.2.2.2.2.2.2.2.2 = false) (k : Q (.inl (some (.int x))) L X Y) : WPw g hd Q pc lv [.int x] L X Y z := WPw.stp hg h0 (by simp only [stepP, hc, hz, hbo]; exact k)
end WW
section SndW
variable {p : Program} {l : Launch} {e : Env} {R : Room} {s : State} {m : MethodId} {args : Array Value} {below : List Frame} {meth : Method} {c : Code} {D : va_G} {nL mc ms n0 : Nat} {A : Nat → Prop} {ad0 : Nat → Nat} {ca0 : Nat → ClassId} {Q : Qt} {g : Gm} {cc : ByteArray} {own : String} {ret : Option FieldType} {hd : Hdl}
/-- what stands in a body with handlers -/
def pmFixW (p : Program) (l : Launch) (R : Room) (s : State) (m : MethodId) (args : Array Value) (meth : Method) (c : Code) (cc : ByteArray) (nL mc ms : Nat) (own : String) (ret : Option FieldType) (A : Nat → Prop) (ad0 : Nat → Nat) (g : Gm) : Prop :=
  CallFix p m c cc nL s args TG own ∧ meth.locks = false ∧ meth.sig.returnType = ret ∧ R.cells = mc ∧ R.slots = ms ∧ gMc g = mc ∧ gMs g = ms ∧ pmExt ad0 A s s.heap ∧ (∀ q, s.heap.size ≤ q → A q) ∧ 1 ≤ R.frames ∧ 20 ≤ R.locals
set_option maxHeartbeats 4000000 in
theorem snd_stepN (F : pmFixW p l R s m args meth c cc nL mc ms own ret A ad0 g) (G : gOk own meth.name cc ret g)
    (pc : Nat) (hnc : g.2.2.1 pc = none) (hnt : g.2.2.2.1 pc = none) (hnn : ∀ k, g.2.2.2.2.1 k = none) (hna : ∀ t len tg kc, cdAt g.1 pc ≠ some (.newarray t, len, tg, kc)) (lv : Lv) (st : List Value) (L : Ly) (X : HX) (Y : HY) (z : Nat × Nat) (k : stepP g Q (pmPs p l e R s m args below meth c D nL mc ms A ad0 ca0 n0 Q) pc lv st L X Y z) : pmPs p l e R s m args below meth c D nL mc ms A ad0 ca0 n0 Q pc lv st L X Y z := by
  obtain ⟨⟨hx, hb, hml, hown, hts⟩, hlocks, hr, hRc, hRs, hmc, hms, hExt, hA, hRf, hRl⟩ := id F
  obtain ⟨G1, G2, G3, G4, G5, G6, G7, G8, G9, G10, G11, G12⟩ := G
  have hcall : ∀ len, len = 3 → pmCall g Q (pmPs p l e R s m args below meth c D nL mc ms A ad0 ca0 n0 Q) pc len lv st L X Y z → pmPs p l e R s m args below meth c D nL mc ms A ad0 ca0 n0 Q pc lv st L X Y z := by
    intro len hlen k
    unfold pmCall at k; rw [hnc] at k; exact k.elim
  unfold stepP at k
  split at k
  · exact k.elim
  rename_i i len tg kc hcd
  obtain ⟨hd, hlen, htg, hkc⟩ := cdOk_at G1 hcd
  split at k
  · -- goto
    have hlen := hlen.resolve_left (fun z => Bool.false_ne_true z); subst hlen
    split at k
    · intro ad ca H locs ls hex hn0 hK hP hD hS hlv
      exact lv_goto hx hb hd (tg1 htg (Or.inl rfl)) (k ad ca H locs ls hex hn0 hK hP hD hS hlv)
    · exact k.elim
  · -- if_icmp
    have hlen := hlen.resolve_left (fun z => Bool.false_ne_true z); subst hlen
    split at k
    · intro ad ca H locs ls hex hn0 hK hP hD hS hlv
      exact snd_icmp hx hb hd (tg1 htg (Or.inr (Or.inl ⟨_, rfl⟩))) (fun h => k.1 h ad ca H locs ls hex hn0 hK hP hD hS hlv) (fun h => k.2 h ad ca H locs ls hex hn0 hK hP hD hS hlv)
    · exact k.elim
  · -- if
    have hlen := hlen.resolve_left (fun z => Bool.false_ne_true z); subst hlen
    split at k
    · intro ad ca H locs ls hex hn0 hK hP hD hS hlv
      exact snd_if hx hb hd (tg1 htg (Or.inr (Or.inr (Or.inl ⟨_, rfl⟩)))) (fun h => k.1 h ad ca H locs ls hex hn0 hK hP hD hS hlv) (fun h => k.2 h ad ca H locs ls hex hn0 hK hP hD hS hlv)
    · exact k.elim
  · -- ifnonnull
    have hlen := hlen.resolve_left (fun z => Bool.false_ne_true z); subst hlen
    split at k
    · intro ad ca H locs ls hex hn0 hK hP hD hS hlv
      exact lv_ifnonnull hx hb hd (tg1 htg (Or.inr (Or.inr (Or.inr rfl)))) (k ad ca H locs ls hex hn0 hK hP hD hS hlv)
    · intro ad ca H locs ls hex hn0 hK hP hD hS hlv
      exact lv_ifnonnullN hx hb hd (k ad ca H locs ls hex hn0 hK hP hD hS hlv)
    · exact k.elim
  · -- lcmp
    have hlen := hlen.resolve_left (fun z => Bool.false_ne_true z); subst hlen
    split at k
    · intro ad ca H locs ls hex hn0 hK hP hD hS hlv
      exact W.lcmp hx hb hd (k ad ca H locs ls hex hn0 hK hP hD hS hlv)
    · exact k.elim
  · -- tableswitch
    split at k
    · intro ad ca H locs ls hex hn0 hK hP hD hS hlv
      exact snd_ts hx hb hd htg (fun h => k.1 h ad ca H locs ls hex hn0 hK hP hD hS hlv) (tswL_mono (fun t h => h ad ca H locs ls hex hn0 hK hP hD hS hlv) _ _ k.2)
    · exact k.elim
  · -- idiv
    have hlen := hlen.resolve_left (fun z => Bool.false_ne_true z); subst hlen
    split at k
    · intro ad ca H locs ls hex hn0 hK hP hD hS hlv
      exact lv_idiv hx hb hd k.1 (k.2 ad ca H locs ls hex hn0 hK hP hD hS hlv)
    · exact k.elim
  · -- irem
    have hlen := hlen.resolve_left (fun z => Bool.false_ne_true z); subst hlen
    split at k
    · intro ad ca H locs ls hex hn0 hK hP hD hS hlv
      exact lv_irem hx hb hd k.1 (k.2 ad ca H locs ls hex hn0 hK hP hD hS hlv)
    · exact k.elim
  · -- iinc
    have hlen := hlen.resolve_left (fun z => Bool.false_ne_true z); subst hlen
    split at k
    · rename_i x hv
      intro ad ca H locs ls hex hn0 hK hP hD hS hlv
      obtain ⟨j, hj⟩ := List.mem_iff_getElem?.mp (cL_in (ad := ad) hv)
      exact lv_iinc hx hb hd hlv.has hj (by rw [of_decide_eq_true hkc]) (by rw [← hlv.1]; exact ldv_lt hv) rfl (fun ls2 h2 => k ad ca H locs ls2 hex hn0 hK hP hD hS (hlv.inc hv h2))
    · exact k.elim
  · -- ldc
    have hlen := hlen.resolve_left (fun z => Bool.false_ne_true z); subst hlen
    split at k
    · rename_i v hv
      intro ad ca H locs ls hex hn0 hK hP hD hS hlv
      rcases G4 _ _ _ _ _ _ hcd hv with ⟨x, rfl, hc⟩ | ⟨q, hq, rfl, rfl, rfl⟩
      · exact lv_ldc hx hb hown (hts _ hc) hd (k ad ca H locs ls hex hn0 hK hP hD hS hlv)
      · refine va_ldcS hx hb hown (hExt.2.2.2.1 q hq) hd ?_
        rw [← hex.1 (1000 + q.2.2.2) (Or.inr (by omega))]
        exact k ad ca H locs ls hex hn0 hK hP hD hS hlv
    · exact k.elim
  · -- ldc_w
    have hlen := hlen.resolve_left (fun z => Bool.false_ne_true z); subst hlen
    split at k
    · rename_i v hv
      intro ad ca H locs ls hex hn0 hK hP hD hS hlv
      obtain ⟨x, rfl, hc⟩ := G5 _ _ _ _ _ _ hcd hv
      exact lv_ldcw hx hb hown (hts _ hc) hd (k ad ca H locs ls hex hn0 hK hP hD hS hlv)
    · exact k.elim
  · -- ldc2_w
    have hlen := hlen.resolve_left (fun z => Bool.false_ne_true z); subst hlen
    split at k
    · rename_i v hv
      intro ad ca H locs ls hex hn0 hK hP hD hS hlv
      obtain ⟨x, rfl, hc⟩ := G6 _ _ _ _ _ _ hcd hv
      exact lv_ldc2 hx hb hown (hts _ hc) hd (k ad ca H locs ls hex hn0 hK hP hD hS hlv)
    · exact k.elim
  · -- arraylength
    have hlen := hlen.resolve_left (fun z => Bool.false_ne_true z); subst hlen
    split at k
    · split at k
      · rename_i hL
        intro ad ca H locs ls hex hn0 hK hP hD hS hlv
        obtain ⟨t0, ht0⟩ := cT_at (ca := ca) hL
        exact va_alen hx hb hK hP _ t0 (cW_at hL) ht0 rfl hd (k ad ca H locs ls hex hn0 hK hP hD hS hlv)
      · exact k.elim
    · exact k.elim
  · -- iaload
    have hlen := hlen.resolve_left (fun z => Bool.false_ne_true z); subst hlen
    split at k
    · split at k
      · rename_i hL
        intro ad ca H locs ls hex hn0 hK hP hD hS hlv
        obtain ⟨t0, ht0⟩ := cT_at (ca := ca) hL
        exact va_iald hx hb hK hP _ t0 (cW_rX (t := 0) hL (by decide)) ht0 k.1 hd (k.2 ad ca H locs ls hex hn0 hK hP hD hS hlv)
      · exact k.elim
    · exact k.elim
  · -- baload
    have hlen := hlen.resolve_left (fun z => Bool.false_ne_true z); subst hlen
    split at k
    · split at k
      · rename_i hL
        intro ad ca H locs ls hex hn0 hK hP hD hS hlv
        obtain ⟨t0, ht0⟩ := cT_at (ca := ca) hL
        exact va_bald hx hb hK hP _ t0 (cW_rX (t := 2) hL (by decide)) ht0 k.1 hd (k.2 ad ca H locs ls hex hn0 hK hP hD hS hlv)
      · rename_i hL
        intro ad ca H locs ls hex hn0 hK hP hD hS hlv
        obtain ⟨t0, ht0⟩ := cT_at (ca := ca) hL
        exact va_zald hx hb hK hP _ t0 (cW_rX (t := 3) hL (by decide)) ht0 k.1 hd (k.2 ad ca H locs ls hex hn0 hK hP hD hS hlv)
      · exact k.elim
    · exact k.elim
  · -- laload
    have hlen := hlen.resolve_left (fun z => Bool.false_ne_true z); subst hlen
    split at k
    · split at k
      · rename_i hL
        intro ad ca H locs ls hex hn0 hK hP hD hS hlv
        obtain ⟨t0, ht0⟩ := cT_at (ca := ca) hL
        exact va_lald hx hb hK hP _ t0 (cW_rY hL) ht0 k.1 hd (k.2 ad ca H locs ls hex hn0 hK hP hD hS hlv)
      · exact k.elim
    · exact k.elim
  · -- iastore
    have hlen := hlen.resolve_left (fun z => Bool.false_ne_true z); subst hlen
    split at k
    · split at k
      · rename_i hL
        intro ad ca H locs ls hex hn0 hK hP hD hS hlv
        obtain ⟨t0, ht0⟩ := cT_at (ca := ca) hL
        refine va_iast hx hb hK hP hD hS _ t0 (cW_rX (t := 0) hL (by decide)) ht0 k.1 hd (fun H1 locs1 hP1 hD1 hS1 => ?_)
        rw [cW_aX (t := 0) hL (by decide)] at hP1 hD1
        exact k.2 ad ca H1 locs1 ls hex hn0 hK hP1 hD1 hS1 hlv
      · exact k.elim
    · exact k.elim
  · -- bastore
    have hlen := hlen.resolve_left (fun z => Bool.false_ne_true z); subst hlen
    split at k
    · split at k
      · rename_i hL
        intro ad ca H locs ls hex hn0 hK hP hD hS hlv
        obtain ⟨t0, ht0⟩ := cT_at (ca := ca) hL
        refine va_bast hx hb hK hP hD hS _ t0 (cW_rX (t := 2) hL (by decide)) ht0 k.1 hd (fun H1 locs1 hP1 hD1 hS1 => ?_)
        rw [cW_aX (t := 2) hL (by decide)] at hP1 hD1
        exact k.2 ad ca H1 locs1 ls hex hn0 hK hP1 hD1 hS1 hlv
      · rename_i hL
        intro ad ca H locs ls hex hn0 hK hP hD hS hlv
        obtain ⟨t0, ht0⟩ := cT_at (ca := ca) hL
        refine va_zast hx hb hK hP hD hS _ t0 (cW_rX (t := 3) hL (by decide)) ht0 k.1 hd (fun H1 locs1 hP1 hD1 hS1 => ?_)
        rw [cW_aX (t := 3) hL (by decide)] at hP1 hD1
        exact k.2 ad ca H1 locs1 ls hex hn0 hK hP1 hD1 hS1 hlv
      · exact k.elim
    · exact k.elim
  · -- lastore
    have hlen := hlen.resolve_left (fun z => Bool.false_ne_true z); subst hlen
    split at k
    · split at k
      · rename_i hL
        intro ad ca H locs ls hex hn0 hK hP hD hS hlv
        obtain ⟨t0, ht0⟩ := cT_at (ca := ca) hL
        refine va_last hx hb hK hP hD hS _ t0 (cW_rY hL) ht0 k.1 hd (fun H1 locs1 hP1 hD1 hS1 => ?_)
        rw [cW_aY hL] at hP1 hD1
        exact k.2 ad ca H1 locs1 ls hex hn0 hK hP1 hD1 hS1 hlv
      · exact k.elim
    · exact k.elim
  · -- getfield
    have hlen := hlen.resolve_left (fun z => Bool.false_ne_true z); subst hlen
    split at k
    · rename_i hf
      split at k
      · rename_i hL
        split at k
        · rename_i hs
          have hk9 := goB_t k; clear k; obtain ⟨hb1, k⟩ := hk9
          have hb1 := Nat.eq_of_beq_eq_true hb1
          subst hb1
          intro ad ca H locs ls hex hn0 hK hP hD hS hlv
          exact snd_get hx hb hts hown hK hP (G2 _ _ _ hf) hL hs hd (k ad ca H locs ls hex hn0 hK hP hD hS hlv)
        · exact k.elim
      · exact k.elim
    · exact k.elim
  · -- putfield
    have hlen := hlen.resolve_left (fun z => Bool.false_ne_true z); subst hlen
    split at k
    · rename_i hf
      split at k
      · rename_i hL
        have hF := G2 _ _ _ hf
        have hPu := G3 _ _ _ _ _ _ _ hcd hf
        split at k
        · rename_i x hs
          have hk9 := goB_t k; clear k; obtain ⟨hb1, k⟩ := hk9
          simp only [Bool.and_eq_true] at hb1
          have hb2 := Nat.eq_of_beq_eq_true hb1.1
          subst hb2
          intro ad ca H locs ls hex hn0 hK hP hD hS hlv
          exact snd_put hx hb hts hown hK hP hD hS hF hPu hL (lt_of_get hs) (by rw [skOk_0 hb1.2]; rfl) (by rw [skOk_0 hb1.2]; rfl) hd (cW_pX hL hs (by decide)) (fun H1 locs1 hP1 hD1 hS1 => k ad ca H1 locs1 ls hex hn0 hK hP1 hD1 hS1 hlv)
        · rename_i x hs
          have hk9 := goB_t k; clear k; obtain ⟨hb1, k⟩ := hk9
          simp only [Bool.and_eq_true] at hb1
          have hb2 := Nat.eq_of_beq_eq_true hb1.1
          subst hb2
          intro ad ca H locs ls hex hn0 hK hP hD hS hlv
          exact snd_put hx hb hts hown hK hP hD hS hF hPu hL (lt_of_get hs) (by rw [skOk_1 hb1.2]; rfl) (by rw [skOk_1 hb1.2]; rfl) hd (cW_pY hL hs) (fun H1 locs1 hP1 hD1 hS1 => k ad ca H1 locs1 ls hex hn0 hK hP1 hD1 hS1 hlv)
        · rename_i x hs
          have hk9 := goB_t k; clear k; obtain ⟨hb1, k⟩ := hk9
          simp only [Bool.and_eq_true] at hb1
          have hb2 := Nat.eq_of_beq_eq_true hb1.1
          subst hb2
          intro ad ca H locs ls hex hn0 hK hP hD hS hlv
          exact snd_put hx hb hts hown hK hP hD hS hF hPu hL (lt_of_get hs) (by rw [skOk_2 hb1.2]; exact (bool01 k.1).1) (by rw [skOk_2 hb1.2]; exact (bool01 k.1).2) hd (cW_pX hL hs (by decide)) (fun H1 locs1 hP1 hD1 hS1 => k.2 ad ca H1 locs1 ls hex hn0 hK hP1 hD1 hS1 hlv)
        · rename_i o b hs
          have hk9 := goB_t k; clear k; obtain ⟨hb1, k⟩ := hk9
          simp only [Bool.and_eq_true] at hb1
          have hb2 := Nat.eq_of_beq_eq_true hb1.1
          subst hb2
          intro ad ca H locs ls hex hn0 hK hP hD hS hlv
          have hz := skOk_r hb1.2 (v := .ref (ad b)) (Or.inr ⟨_, rfl⟩)
          exact snd_put (v := .ref (ad b)) hx hb hts hown hK hP hD hS hF hPu hL (lt_of_get hs) hz.1 hz.2 hd (cW_pR (o2 := some b) hL hs) (fun H1 locs1 hP1 hD1 hS1 => k ad ca H1 locs1 ls (by rw [List.length_set]; exact hex) (by rw [List.length_set]; exact hn0) (by rw [cT_setO hL]; exact hK) hP1 hD1 hS1 hlv)
        · rename_i o hs
          have hk9 := goB_t k; clear k; obtain ⟨hb1, k⟩ := hk9
          simp only [Bool.and_eq_true] at hb1
          have hb2 := Nat.eq_of_beq_eq_true hb1.1
          subst hb2
          intro ad ca H locs ls hex hn0 hK hP hD hS hlv
          have hz := skOk_r hb1.2 (v := .null) (Or.inl rfl)
          exact snd_put (v := .null) hx hb hts hown hK hP hD hS hF hPu hL (lt_of_get hs) hz.1 hz.2 hd (cW_pR (o2 := none) hL hs) (fun H1 locs1 hP1 hD1 hS1 => k ad ca H1 locs1 ls (by rw [List.length_set]; exact hex) (by rw [List.length_set]; exact hn0) (by rw [cT_setO hL]; exact hK) hP1 hD1 hS1 hlv)
        · exact k.elim
      · exact k.elim
    · exact k.elim
  · -- new
    have hlen := hlen.resolve_left (fun z => Bool.false_ne_true z); subst hlen
    split at k
    · rename_i E hE
      have hk9 := goB_t k; clear k; obtain ⟨hb1, k⟩ := hk9
      simp only [Bool.and_eq_true] at hb1
      rw [hmc, hms] at hb1
      rw [hnt] at hE; cases hE
    · split at k
      · rename_i ci sl hN
        have hk9 := goB_t k; clear k; obtain ⟨hb1, k⟩ := hk9
        simp only [Bool.and_eq_true] at hb1
        rw [hmc, hms] at hb1
        rw [hnn] at hN; cases hN
      · exact k.elim
  · -- newarray
    have hlen := hlen.resolve_left (fun z => Bool.false_ne_true z); subst hlen
    split at k
    · rename_i n r tag hT
      obtain ⟨k1, k2, k3, k⟩ := k
      have hk9 := goB_t k; clear k; obtain ⟨hb1, k⟩ := hk9
      simp only [Bool.and_eq_true] at hb1
      rw [hmc] at hb1
      rw [hms] at k3
      exact absurd hcd (hna _ _ _ _)
    · exact k.elim
  · -- invokevirtual
    have hlen := hlen.resolve_left (fun z => Bool.false_ne_true z)
    exact hcall len hlen k
  · -- invokestatic
    have hlen := hlen.resolve_left (fun z => Bool.false_ne_true z)
    exact hcall len hlen k
  · -- invokespecial
    have hlen := hlen.resolve_left (fun z => Bool.false_ne_true z)
    split at k
    · rename_i hno
      subst hlen
      split at k
      · have hk9 := goB_t k; clear k; obtain ⟨hb1, k⟩ := hk9
        have hb1 := Nat.le_of_ble_eq_true hb1
        intro ad ca H locs ls hex hn0 hK hP hD hS hlv
        refine W.objInit hx hb hown (hts _ (G9 _ _ _ _ _ hcd hno)) (hts _ objInit_in.1) (hts _ objInit_in.2) rfl (by rw [hml]; exact hlv.2.1) rfl hd hRf ?_ (k ad ca H locs ls hex hn0 hK hP hD hS hlv)
        have h8 := room8 (m := m) (pc := pc) (ls := ls) (st := []) (rest := List.map (cv ad) (by assumption)) (by rw [cv_sum]; exact hb1)
        exact Nat.le_trans (Nat.add_le_add_right h8 12) hRl
      · exact k.elim
    · exact hcall len hlen k
  · -- ireturn
    have hlen := hlen.resolve_left (fun z => Bool.false_ne_true z); subst hlen
    split at k
    · rename_i x
      have hk9 := goB_t k; clear k; obtain ⟨hb1, k⟩ := hk9
      simp only [Bool.and_eq_true] at hb1
      rw [hmc, hms] at hb1
      have hret := G10 _ _ _ _ hcd
      intro ad ca H locs ls hex hn0 hK hP hD hS hlv
      refine W.widen (k := mc) (n := ms) (Nat.le_of_ble_eq_true hb1.1) (Nat.le_of_ble_eq_true hb1.2) (vx_ret ?_)
      split at k
      · rename_i hbz
        rw [hbz] at hret
        exact W.zret hx hb (by rw [hr]; exact hret) (bool01 k.1).1 (fun t ht hW => ⟨⟨_, L, X, Y, rfl, Or.inr (Or.inl ⟨x, rfl⟩), k.2, ad, ca, hex, hn0, by rw [ht]; exact hP, va_K.moved hW.alike hK, hD⟩, hS.F ht⟩) hS.2.2 hd hlocks
      · rename_i hbz
        rw [hbz] at hret
        exact W.iret hx hb (by rw [hr]; exact hret) (fun t ht hW => ⟨⟨_, L, X, Y, rfl, Or.inr (Or.inl ⟨x, rfl⟩), k, ad, ca, hex, hn0, by rw [ht]; exact hP, va_K.moved hW.alike hK, hD⟩, hS.F ht⟩) hS.2.2 hd hlocks
    · exact k.elim
  · -- lreturn
    have hlen := hlen.resolve_left (fun z => Bool.false_ne_true z); subst hlen
    split at k
    · rename_i x
      have hk9 := goB_t k; clear k; obtain ⟨hb1, k⟩ := hk9
      simp only [Bool.and_eq_true] at hb1
      rw [hmc, hms] at hb1
      have hret := G11 _ _ _ _ hcd
      intro ad ca H locs ls hex hn0 hK hP hD hS hlv
      refine W.widen (k := mc) (n := ms) (Nat.le_of_ble_eq_true hb1.1) (Nat.le_of_ble_eq_true hb1.2) (vx_ret ?_)
      exact W.lret hx hb (by rw [hr]; exact hret) (fun t ht hW => ⟨⟨_, L, X, Y, rfl, Or.inr (Or.inr ⟨x, rfl⟩), k, ad, ca, hex, hn0, by rw [ht]; exact hP, va_K.moved hW.alike hK, hD⟩, hS.F ht⟩) hS.2.2 hd hlocks
    · exact k.elim
  · -- return
    have hlen := hlen.resolve_left (fun z => Bool.false_ne_true z); subst hlen
    split at k
    · have hk9 := goB_t k; clear k; obtain ⟨hb1, k⟩ := hk9
      simp only [Bool.and_eq_true] at hb1
      rw [hmc, hms] at hb1
      have hret := G12 _ _ _ _ hcd
      intro ad ca H locs ls hex hn0 hK hP hD hS hlv
      refine W.widen (k := mc) (n := ms) (Nat.le_of_ble_eq_true hb1.1) (Nat.le_of_ble_eq_true hb1.2) (vx_ret ?_)
      exact W.vret hx hb (by rw [hr]; exact hret) (fun t ht hW => ⟨⟨_, L, X, Y, rfl, Or.inl rfl, k, ad, ca, hex, hn0, by rw [ht]; exact hP, va_K.moved hW.alike hK, hD⟩, hS.F ht⟩) hS.2.2 hd hlocks
    · exact k.elim
  · -- the others
    split at k
    · rename_i v hv
      intro ad ca H locs ls hex hn0 hK hP hD hS hlv
      exact snd_load hx hb hd hlen hlv hv (k ad ca H locs ls hex hn0 hK hP hD hS hlv)
    · split at k
      · split at k
        · rename_i lv2 hv
          intro ad ca H locs ls hex hn0 hK hP hD hS hlv
          exact snd_store hx hb hd hlen hlv hv (fun ls2 h2 => k ad ca H locs ls2 hex hn0 hK hP hD hS h2)
        · split at k
          · rename_i st2 hv
            intro ad ca H locs ls hex hn0 hK hP hD hS hlv
            exact snd_pure hx hb hd hlen hkc hv (k ad ca H locs ls hex hn0 hK hP hD hS hlv)
          · exact k.elim
      · split at k
        · rename_i st2 hv
          intro ad ca H locs ls hex hn0 hK hP hD hS hlv
          exact snd_pure hx hb hd hlen hkc hv (k ad ca H locs ls hex hn0 hK hP hD hS hlv)
        · exact k.elim
/-- where an exception is caught: the body's table, the words -/
def CatOk (c : Code) (s : State) (m : MethodId) (args : Array Value) (own : String) (cc : ByteArray) (nL : Nat) (hd : Hdl) : Prop := ∀ pc E q, hd pc E = some q → ∃ (pre : List ExceptionTableEntry) (x : ExceptionTableEntry) (suf : List ExceptionTableEntry) (name : String), c.exceptionTable.toList = pre ++ x :: suf ∧
  (∀ z ∈ pre, covers z pc = false ∨ (z.catchType ≠ 0 ∧ ∃ nm : String, (Cond.classLink own z.catchType nm).before args s = true ∧ va_Nc E nm s)) ∧ covers x pc = true ∧ x.catchType ≠ 0 ∧ (Cond.classLink own x.catchType name).before args s = true ∧ (Cond.castable E name).before args s = true ∧ x.handlerPc = q.1 ∧ q.2.2 < nL ∧
  ((decode cc q.1 = .ok (.astore q.2.2, 2) ∧ q.2.1 = 2) ∨ ∃ f : Fin 4, f.val = q.2.2 ∧ decode cc q.1 = .ok (.astore_n f, 1) ∧ q.2.1 = 1)
theorem catch_go {H : Heap} {locs : List Loc} {cells slots : Nat} {P : State → Prop} {pc : Nat} {E : String} {q : Nat × Nat × Nat} {ad : Nat → Nat} {lv : Lv} {ls : Array Slot} {rest : List Value} {q9 : Addr} {ce9 : Cell} (hcat : CatOk c s m args own cc nL hd) (hx : p.tables.exec = Jvm.exec) (hb : c.code = cc) (hown : s.vm.findClass own = some m.cls) (hq : hd pc E = some q) (hlv : lvOk ad ls nL lv) (hce : H[q9]? = some ce9) (hcv : ce9.vm = .none) (hcl : s.vm.findClass E = some ce9.cls)
    (k : ∀ ls2, lvOk ad ls2 nL (fgt lv q.2.2) → W p l e R s m args below meth c H locs cells slots P (F0 m (q.1 + q.2.1) ls2 [])) : vx_W p l e R s m args below meth c H locs cells slots P (F0 m pc ls rest) q9 := by
  obtain ⟨pre, x, suf, name, h1, h2, h3, h4, h5, h6, h7, h8, h9⟩ := hcat pc E q hq
  refine vx_catch hown pre x suf h1 h2 h3 h4 h5 h6 hce hcv hcl ?_
  rw [h7]
  rcases h9 with ⟨d, e⟩ | ⟨f, hf, d, e⟩
  · rw [e] at k
    exact lv_astore hx hb d hlv.has h8 rfl (fun ls2 g => k ls2 (hlv.st0 g))
  · rw [e] at k

    rw [← hf] at k h8
    exact lv_astore_n hx hb d rfl hlv.has h8 rfl (fun ls2 g => k ls2 (hlv.st0 g))
theorem snd_runW {pc m1 m2 : Nat} {ad' : Nat → Nat} {ca' : Nat → ClassId} {H : Heap} {locs : List Loc} {ls : Array Slot} {cells slots : Nat} {st0 rest : List Value} {Q1 : Qt} {L' : Ly} {A1 : Nat → Prop}
    (hr : vx_Run p l e R s m args below meth c H locs cells slots m1 m2 (F0 m pc ls st0) rest (pmQc D ad' ca' L'.length A1 Q1 #[]) (pmXC D ad' ca' L'.length A1 Q1) A1)
    (hS : va_S A s.heap H locs) (hA1 : ∀ q, A1 q → A q)
    (hc : cells + m1 ≤ mc) (hs : slots + m2 ≤ ms)
    (kr : ∀ (v : Option Value) (L3 : Ly) (X3 : HX) (Y3 : HY) (H1 : Heap) (locs1 : List Loc) (t : State), t.heap = H1 → s.vm.Alike t.vm → noRef v → Q1 (.inl v) L3 X3 Y3 → pmEnd D ad' ca' L'.length A1 L3 X3 Y3 t → (∀ q : Nat, q < H.size → ¬ A1 q → H1[q]? = H[q]?) → va_S A s.heap H1 locs1 →
      W p l e R s m args below meth c H1 locs1 (cells + m1) (slots + m2) (vx_MQ below (pmQc D ad0 ca0 n0 A Q) (pmXC D ad0 ca0 n0 A Q) args s mc ms A) (F0 m (pc + 3) ls (v.toList ++ rest)))
    (kx : ∀ (E : String) (L3 : Ly) (X3 : HX) (Y3 : HY) (H1 : Heap) (locs1 : List Loc) (t : State) (q9 : Addr) (ce9 : Cell), t.heap = H1 → s.vm.Alike t.vm → Q1 (.inr E) L3 X3 Y3 → pmEnd D ad' ca' L'.length A1 L3 X3 Y3 t → (∀ q : Nat, q < H.size → ¬ A1 q → H1[q]? = H[q]?) → va_S A s.heap H1 locs1 → H1[q9]? = some ce9 → ce9.vm = .none → s.vm.findClass E = some ce9.cls → vx_W p l e R s m args below meth c H1 locs1 (cells + m1) (slots + m2) (vx_MQ below (pmQc D ad0 ca0 n0 A Q) (pmXC D ad0 ca0 n0 A Q) args s mc ms A) (F0 m pc ls rest) q9) :
    W p l e R s m args below meth c H locs cells slots (vx_MQ below (pmQc D ad0 ca0 n0 A Q) (pmXC D ad0 ca0 n0 A Q) args s mc ms A) (F0 m pc ls st0) := by
  intro T hT X
  rcases hr T hT X with ⟨v, st₀, t, T', Lc, h0, X', hL, e1, e2, ⟨⟨v2, L2, X2, Y2, ho, hnr, hq, hend⟩, hF⟩, st⟩ | ⟨q, st₀, t, T', Lc, E, ce, h0, X', hL, e1, e2, ⟨⟨L2, X2, Y2, hq, hend⟩, hF⟩, hce, hcv, hcl, st⟩
  · cases ho
    obtain ⟨k1, k2, k3⟩ := vx_keep h0 e1 hS (fun q _ h => hA1 q h) hA1 hL hF
    obtain ⟨t2, a1, b1⟩ := kr v L2 X2 Y2 T'.heap (locs ++ Lc) t e1.symm (by rw [← e2]; exact X'.warmed.alike) hnr hq hend k2 k3 T' rfl X'
    exact ⟨t2, st t2 a1, b1⟩
  · obtain ⟨k1, k2, k3⟩ := vx_keep h0 e1 hS (fun q _ h => hA1 q h) hA1 hL hF
    have hal : s.vm.Alike t.vm := by rw [← e2]; exact X'.warmed.alike
    have hw := kx E L2 X2 Y2 T'.heap (locs ++ Lc) t q ce e1.symm hal hq hend k2 k3 (by rw [e1]; exact hce) hcv hcl
    obtain ⟨t2, a1, b1⟩ := hw T' rfl X'
    exact ⟨t2, st.trans a1, b1⟩
theorem snd_callW {pc : Nat} {ce : Ce} {lv : Lv} {st : List Value} {L : Ly} {X : HX} {Y : HY} {z : Nat × Nat} (hce : g.2.2.1 pc = some ce) (hcs : CallSnd p l e R s m args below meth c D nL pc ce.1 ce.2.1 ce.2.2.2.1.1 ce.2.2.2.1.2 ce.2.2.2.2.2) (hso : ceStat ce)
    (hRc : R.cells = mc) (hRs : R.slots = ms) (hmc : gMc g = mc) (hms : gMs g = ms) (hE : pmExt ad0 A s s.heap) (hA : ∀ q, s.heap.size ≤ q → A q)
    (hcat : CatOk c s m args own cc nL hd) (hx : p.tables.exec = Jvm.exec) (hb : c.code = cc) (hown : s.vm.findClass own = some m.cls)
    (k : pmCall g (hdQ hd (pmPs p l e R s m args below meth c D nL mc ms A ad0 ca0 n0 Q) pc lv z ce) (pmPs p l e R s m args below meth c D nL mc ms A ad0 ca0 n0 Q) pc 3 lv st L X Y z) : pmPs p l e R s m args below meth c D nL mc ms A ad0 ca0 n0 Q pc lv st L X Y z := by
  intro ad ca H locs ls hex hn0 hK hP hD hS hlv
  unfold pmCall at k
  rw [hce] at k
  obtain ⟨hchk, k⟩ := goB_t k
  simp only [Bool.and_eq_true] at hchk
  obtain ⟨⟨⟨⟨⟨hrc, hlen⟩, hc1⟩, hc2⟩, hctg⟩, hck⟩ := hchk
  have hlen := Nat.le_of_ble_eq_true hlen
  have hc1 := Nat.le_of_ble_eq_true hc1
  have hc2 := Nat.le_of_ble_eq_true hc2
  have hctg := Nat.le_of_ble_eq_true hctg
  rw [hmc] at hc1
  rw [hms] at hc2
  have hAH : ∀ q, H.size ≤ q → A q := fun q h => hA q (Nat.le_trans hS.1 h)
  have hE1 : pmExt ad A s s.heap := hE.ad (fun k hk => hex.1 k (Or.inr hk))
  have hst : st.map (cv ad) = ((((st.take ce.2.1).reverse).map (cv ad)).reverse) ++ (st.drop ce.2.1).map (cv ad) := by
    rw [← List.map_reverse, List.reverse_reverse, ← List.map_append, List.take_append_drop]
  have hcat2 : ((((st.drop ce.2.1).map (cv ad))).map fun v => v.category).sum ≤ 8 := by rw [cv_sum]; exact hctg
  obtain ⟨T, n, rk, cs, so, rc⟩ := ce
  cases so with
  | none =>
    have hcs := hcs ad ca (st.take n).reverse L X Y _ ((st.drop n).map (cv ad)) H locs z.1 z.2 ls k (by simp; exact Nat.min_eq_left hlen) hrc hK hP (hD.weaken (fun _ _ _ _ => trivial)) (fun U hW => hE1.to hW (fun a h1 h2 => hS.2.1 a h1 h2) (fun q hq => by
      rcases hq with ⟨k9, e9, hk9⟩ | hq
      · exact hD.2 _ _ hk9
      · exact hAH q hq)) hlv.2.1 hcat2 (by rw [hRc]; exact hc1) (by rw [hRs]; exact hc2)
    rw [hst]
    refine snd_runW hcs hS (fun q hq => by
      rcases hq with ⟨k9, e9, hk9⟩ | hq
      · exact hD.2 _ _ hk9
      · exact hAH q hq) hc1 hc2 ?_ ?_
    · intro v L3 X3 Y3 H1 locs1 t ht hal hnr hq hend hk1 hS1
      obtain ⟨rfl, hq⟩ := hq
      rcases hq with hq | ⟨E, e9, -⟩
      · have hq := retK_of hq
        obtain ⟨ad9, ca9, f1, f2, f3, f4, f5⟩ := hend
        obtain ⟨rfl, rfl⟩ := f1.2.2 rfl
        have h9 := hq _ _ H1 locs1 ls hex hn0 hK (by rw [← ht]; exact f3) (f5.weaken (fun k9 q9 h9 hA9 => by
          rcases hA9 with ⟨k8, e8, hk8⟩ | hA9
          · exact hD.2 k8 (q9.1, e8) hk8
          · exact hAH _ hA9)) hS1 hlv
        rw [List.map_append, noRef_cv hnr] at h9
        exact h9
      · cases e9
    · intro E L3 X3 Y3 H1 locs1 t q9 ce9 ht hal hq hend hk1 hS1 hce9 hcv9 hcl9
      obtain ⟨rfl, hq⟩ := hq
      rcases hq with hq | ⟨E, e9, hq⟩
      · exfalso
        unfold retK at hq
        split at hq
        · cases hq.1
        · obtain ⟨x, e9, -⟩ := hq; cases e9
        · obtain ⟨x, e9, -⟩ := hq; cases e9
      · cases e9
        obtain ⟨ad9, ca9, f1, f2, f3, f4, f5⟩ := hend
        obtain ⟨rfl, rfl⟩ := f1.2.2 rfl
        unfold hdQ at hq
        simp only at hq
        split at hq
        · rename_i q hq9
          exact catch_go hcat hx hb hown hq9 hlv hce9 hcv9 hcl9 (fun ls2 h2 => hq _ _ H1 locs1 ls2 hex hn0 hK (by rw [← ht]; exact f3) (f5.weaken (fun k9 q9 h9 hA9 => by
            rcases hA9 with ⟨k8, e8, hk8⟩ | hA9
            · exact hD.2 k8 (q9.1, e8) hk8
            · exact hAH _ hA9)) hS1 h2)
        · exact hq.elim
  | some q =>
    obtain ⟨Lr, sel, Lc, Lc2, L2⟩ := q
    obtain ⟨hL, k⟩ := k
    subst hL
    obtain ⟨hso1, hso2⟩ := hso
    simp only [ceChk, Bool.and_eq_true, Bool.or_eq_true] at hck
    obtain ⟨hck1, hck2⟩ := hck
    have hok : ∀ v ∈ (st.take n).reverse, okV sel v = true := fun v hv => List.all_eq_true.mp hck1 v (List.mem_reverse.mp hv)
    obtain ⟨s1, s2, s3, s4⟩ := selOk_spec hso1
    obtain ⟨b1, b2, b3, b3c, b4, b5⟩ := selBk_spec hso2
    have hw := sel_world (D := D) (ad := ad) (ca := ca) (X := X) (Y := Y) hso1
    have hPc := hP.by _ hw.1
    have hDc : va_D (fun _ => True) (cW (fun j => ad (selF sel j)) (fun j => ca (sel.getD j 0)) Lc (sb sel X) (sb sel Y)) := (hD.by _ hw.1 (fun i j hi hj hij => by
      rw [cW_len] at hi hj
      have h1 := idx_of_get s4 (k := i) (by omega)
      have h2 := idx_of_get s4 (k := j) (by omega)
      rw [hij] at h1
      omega)).weaken (fun _ _ _ _ => trivial)
    have hKc := va_K_of hK hw.2
    have hfree : ∀ q, va_A (cW (fun j => ad (selF sel j)) (fun j => ca (sel.getD j 0)) Lc (sb sel X) (sb sel Y)) H.size q → A q := fun q hq => by
      rcases hq with ⟨k9, e9, hk9⟩ | hq
      · exact hD.2 _ _ (hw.1 k9 _ hk9)
      · exact hAH q hq
    have hav : ((st.take n).reverse.map (rnV sel)).map (cv (fun j => ad (selF sel j))) = (st.take n).reverse.map (cv ad) := by
      rw [List.map_map]
      exact List.map_congr_left (fun v hv => rnV_cv s2 (hok v hv))
    have hcs := hcs (fun j => ad (selF sel j)) (fun j => ca (sel.getD j 0)) ((st.take n).reverse.map (rnV sel)) Lc (sb sel X) (sb sel Y) _ ((st.drop n).map (cv ad)) H locs z.1 z.2 ls k (by simp; exact Nat.min_eq_left hlen) (rcOk_sel hso1 (by omega) hok hrc) hKc hPc hDc (fun U hW => (hE1.to hW (fun a h1 h2 => hS.2.1 a h1 h2) hfree).ad (fun k9 hk9 => by simp only [selF]; rw [if_neg (by omega)])) hlv.2.1 hcat2 (by rw [hRc]; exact hc1) (by rw [hRs]; exact hc2)
    rw [hav] at hcs
    rw [hst]
    have hback : ∀ (X3 : HX) (Y3 : HY) (H1 : Heap) (t : State), t.heap = H1 → s.vm.Alike t.vm → pmEnd D (fun j => ad (selF sel j)) (fun j => ca (sel.getD j 0)) Lc.length (va_A (cW (fun j => ad (selF sel j)) (fun j => ca (sel.getD j 0)) Lc (sb sel X) (sb sel Y)) H.size) Lc2 X3 Y3 t → (∀ q : Nat, q < H.size → ¬ va_A (cW (fun j => ad (selF sel j)) (fun j => ca (sel.getD j 0)) Lc (sb sel X) (sb sel Y)) H.size q → H1[q]? = H[q]?) →
        ∃ (ad2 : Nat → Nat) (ca2 : Nat → ClassId), exA ad2 ad ca2 ca L.length L2.length ∧ va_P D vwCl (cW ad2 ca2 L2 (mg sel L.length X X3) (mg sel L.length Y Y3)) H1 ∧ va_K D vwCl (cT ca2 L2) s ∧ va_D A (cW ad2 ca2 L2 (mg sel L.length X X3) (mg sel L.length Y Y3)) := by
      intro X3 Y3 H1 t ht hal hend hk1
      obtain ⟨ad9, ca9, f1, f2, f3, f4, f5⟩ := hend
      exact sel_back hso1 hso2 hP hD hAH (hck2.imp (fun q => Nat.eq_of_beq_eq_true q) (fun q => fun s9 hs9 => List.all_eq_true.mp q.2 s9 hs9)) hk1 f1 (by rw [← ht]; exact f3) (va_K.moved hal.symm f4) hK f5
    refine snd_runW hcs hS hfree hc1 hc2 ?_ ?_
    · intro v L3 X3 Y3 H1 locs1 t ht hal hnr hq hend hk1 hS1
      obtain ⟨rfl, hq⟩ := hq
      rcases hq with hq | ⟨E, e9, -⟩
      · have hq := retK_of hq
        obtain ⟨ad2, ca2, g1, g2, g3, g4⟩ := hback X3 Y3 H1 t ht hal hend hk1
        have hlen2 : L.length ≤ L2.length := by omega
        have hcond : ad2 = ad ∨ (lv.all (okA L.length) = true ∧ ∀ v ∈ st, okA L.length (some v) = true) := by
          rcases hck2 with q | q
          · exact Or.inl (g1.2.2 (by have := Nat.eq_of_beq_eq_true q; omega)).1
          · exact Or.inr ⟨q.1.1, fun v hv => List.all_eq_true.mp q.1.2 v hv⟩
        have hlv2 : lvOk ad2 ls nL lv := hcond.elim (fun q => q ▸ hlv) (fun q => lvOk_ad g1.1 q.1 hlv)
        have hst2 : (st.drop n).map (cv ad2) = (st.drop n).map (cv ad) := hcond.elim (fun q => by rw [q]) (fun q => st_ad g1.1 (fun v hv => q.2 v (List.mem_of_mem_drop hv)))
        have h9 := hq ad2 ca2 H1 locs1 ls (exA_trans hn0 hlen2 hex g1) (Nat.le_trans hn0 hlen2) g3 g2 g4 hS1 hlv2
        rw [List.map_append, noRef_cv hnr, hst2] at h9
        exact h9
      · cases e9
    · intro E L3 X3 Y3 H1 locs1 t q9 ce9 ht hal hq hend hk1 hS1 hce9 hcv9 hcl9
      obtain ⟨rfl, hq⟩ := hq
      rcases hq with hq | ⟨E, e9, hq⟩
      · exfalso
        unfold retK at hq
        split at hq
        · cases hq.1
        · obtain ⟨x, e9, -⟩ := hq; cases e9
        · obtain ⟨x, e9, -⟩ := hq; cases e9
      · cases e9
        obtain ⟨ad2, ca2, g1, g2, g3, g4⟩ := hback X3 Y3 H1 t ht hal hend hk1
        have hlen2 : L.length ≤ L2.length := by omega
        have hcond : ad2 = ad ∨ lv.all (okA L.length) = true := by
          rcases hck2 with q | q
          · exact Or.inl (g1.2.2 (by have := Nat.eq_of_beq_eq_true q; omega)).1
          · exact Or.inr q.1.1
        have hlv2 : lvOk ad2 ls nL lv := hcond.elim (fun q => q ▸ hlv) (fun q => lvOk_ad g1.1 q hlv)
        unfold hdQ at hq
        simp only at hq
        split at hq
        · rename_i q hq9
          exact catch_go hcat hx hb hown hq9 hlv2 hce9 hcv9 hcl9 (fun ls2 h2 => hq ad2 ca2 H1 locs1 ls2 (exA_trans hn0 hlen2 hex g1) (Nat.le_trans hn0 hlen2) g3 g2 g4 hS1 h2)
        · exact hq.elim

theorem snd_stepW (F : pmFixW p l R s m args meth c cc nL mc ms own ret A ad0 g) (G : gOk own meth.name cc ret g) (hcs : ∀ pc ce, g.2.2.1 pc = some ce → CallSnd p l e R s m args below meth c D nL pc ce.1 ce.2.1 ce.2.2.2.1.1 ce.2.2.2.1.2 ce.2.2.2.2.2 ∧ ceStat ce) (hcat : CatOk c s m args own cc nL hd)
    (hnt : ∀ pc, g.2.2.2.1 pc = none) (hnn : ∀ k, g.2.2.2.2.1 k = none) (hna : ∀ pc t len tg kc, cdAt g.1 pc ≠ some (.newarray t, len, tg, kc))
    (pc : Nat) (lv : Lv) (st : List Value) (L : Ly) (X : HX) (Y : HY) (z : Nat × Nat) (k : stepW g hd Q (pmPs p l e R s m args below meth c D nL mc ms A ad0 ca0 n0 Q) pc lv st L X Y z) : pmPs p l e R s m args below meth c D nL mc ms A ad0 ca0 n0 Q pc lv st L X Y z := by
  unfold stepW at k
  split at k
  · rename_i hn
    exact snd_stepN F G pc hn (hnt pc) hnn (hna pc) lv st L X Y z k
  · rename_i ce hce
    obtain ⟨⟨hx, hb, hml, hown, hts⟩, hlocks, hr, hRc, hRs, hmc, hms, hExt, hA, hRf, hRl⟩ := id F
    exact snd_callW hce (hcs pc ce hce).1 (hcs pc ce hce).2 hRc hRs hmc hms hExt hA hcat hx hb hown k

end SndW
