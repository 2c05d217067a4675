/-! the pure machine is sound -/
section SndMain
variable {p : Program} {l : Launch} {e : Env} {R : Room} {s : State} {m : MethodId} {args : Array Value} {below : List Frame} {meth : Method} {c : Code} {D : va_G} {nL mc ms n0 : Nat} {A : Nat → Prop} {ad0 : Nat → Nat} {ca0 : Nat → ClassId} {Q : Qt} {g : Gm} {cc : ByteArray} {own : String} {ret : Option FieldType}
theorem tg1 {pc len t : Nat} {i : Instr} {off : Int} {kc : Int32} (h : tgOk (pc, i, len, [t], kc) = true) (hi : i = .goto off ∨ (∃ cd, i = .if_icmp cd off) ∨ (∃ cd, i = .ifCond cd off) ∨ i = .ifnonnull off) : (pc : Int) + off = (t : Int) := by
  rcases hi with rfl | ⟨cd, rfl⟩ | ⟨cd, rfl⟩ | rfl <;> (simp [tgOk] at h; exact h.symm)
set_option maxHeartbeats 4000000 in
theorem snd_step (F : pmFix p l R s m args meth c cc nL mc ms own ret A ad0 g) (G : gOk own meth.name cc ret g) (hcs : ∀ pc ce, g.2.2.1 pc = some ce → CallSnd p l e R s m args below meth c D nL pc ce.1 ce.2.1 ce.2.2.2.1.1 ce.2.2.2.1.2 ce.2.2.2.2.2 ∧ ceStat ce)
    (pc : Nat) (lv : Lv) (st : List Value) (L : Ly) (X : HX) (Y : HY) (z : Nat × Nat) (k : stepP g Q (pmPs p l e R s m args below meth c D nL mc ms A ad0 ca0 n0 Q) pc lv st L X Y z) : pmPs p l e R s m args below meth c D nL mc ms A ad0 ca0 n0 Q pc lv st L X Y z := by
  obtain ⟨⟨hx, hb, hml, hown, hts⟩, hlocks, hr, htab, hRc, hRs, hmc, hms, hExt, hA, hRf, hRl, hR⟩ := id F
  obtain ⟨G1, G2, G3, G4, G5, G6, G7, G8, G9, G10, G11, G12⟩ := G
  have hout : ∀ pc : Nat, ∀ x ∈ c.exceptionTable.toList, covers x pc = false := fun _ x hx9 => (htab x hx9).elim
  have hcall : ∀ len, len = 3 → pmCall g Q (pmPs p l e R s m args below meth c D nL mc ms A ad0 ca0 n0 Q) pc len lv st L X Y z → pmPs p l e R s m args below meth c D nL mc ms A ad0 ca0 n0 Q pc lv st L X Y z := by
    intro len hlen k
    subst hlen
    cases hce : g.2.2.1 pc with
    | none => unfold pmCall at k; rw [hce] at k; exact k.elim
    | some ce => exact snd_call hce (hcs pc ce hce).1 (hcs pc ce hce).2 hRc hRs hmc hms hExt hA (hout pc) hlocks k
  unfold stepP at k
  split at k
  · exact k.elim
  rename_i i len tg kc hcd
  obtain ⟨hd, hlen, htg, hkc⟩ := cdOk_at G1 hcd
  split at k
  · -- goto
    have hlen := hlen.resolve_left (fun z => Bool.false_ne_true z); subst hlen
    split at k
    · intro ad ca H locs ls hex hn0 hK hP hD hS hlv
      exact lv_goto hx hb hd (tg1 htg (Or.inl rfl)) (k ad ca H locs ls hex hn0 hK hP hD hS hlv)
    · exact k.elim
  · -- if_icmp
    have hlen := hlen.resolve_left (fun z => Bool.false_ne_true z); subst hlen
    split at k
    · intro ad ca H locs ls hex hn0 hK hP hD hS hlv
      exact snd_icmp hx hb hd (tg1 htg (Or.inr (Or.inl ⟨_, rfl⟩))) (fun h => k.1 h ad ca H locs ls hex hn0 hK hP hD hS hlv) (fun h => k.2 h ad ca H locs ls hex hn0 hK hP hD hS hlv)
    · exact k.elim
  · -- if
    have hlen := hlen.resolve_left (fun z => Bool.false_ne_true z); subst hlen
    split at k
    · intro ad ca H locs ls hex hn0 hK hP hD hS hlv
      exact snd_if hx hb hd (tg1 htg (Or.inr (Or.inr (Or.inl ⟨_, rfl⟩)))) (fun h => k.1 h ad ca H locs ls hex hn0 hK hP hD hS hlv) (fun h => k.2 h ad ca H locs ls hex hn0 hK hP hD hS hlv)
    · exact k.elim
  · -- ifnonnull
    have hlen := hlen.resolve_left (fun z => Bool.false_ne_true z); subst hlen
    split at k
    · intro ad ca H locs ls hex hn0 hK hP hD hS hlv
      exact lv_ifnonnull hx hb hd (tg1 htg (Or.inr (Or.inr (Or.inr rfl)))) (k ad ca H locs ls hex hn0 hK hP hD hS hlv)
    · intro ad ca H locs ls hex hn0 hK hP hD hS hlv
      exact lv_ifnonnullN hx hb hd (k ad ca H locs ls hex hn0 hK hP hD hS hlv)
    · exact k.elim
  · -- lcmp
    have hlen := hlen.resolve_left (fun z => Bool.false_ne_true z); subst hlen
    split at k
    · intro ad ca H locs ls hex hn0 hK hP hD hS hlv
      exact W.lcmp hx hb hd (k ad ca H locs ls hex hn0 hK hP hD hS hlv)
    · exact k.elim
  · -- tableswitch
    split at k
    · intro ad ca H locs ls hex hn0 hK hP hD hS hlv
      exact snd_ts hx hb hd htg (fun h => k.1 h ad ca H locs ls hex hn0 hK hP hD hS hlv) (tswL_mono (fun t h => h ad ca H locs ls hex hn0 hK hP hD hS hlv) _ _ k.2)
    · exact k.elim
  · -- idiv
    have hlen := hlen.resolve_left (fun z => Bool.false_ne_true z); subst hlen
    split at k
    · intro ad ca H locs ls hex hn0 hK hP hD hS hlv
      exact lv_idiv hx hb hd k.1 (k.2 ad ca H locs ls hex hn0 hK hP hD hS hlv)
    · exact k.elim
  · -- irem
    have hlen := hlen.resolve_left (fun z => Bool.false_ne_true z); subst hlen
    split at k
    · intro ad ca H locs ls hex hn0 hK hP hD hS hlv
      exact lv_irem hx hb hd k.1 (k.2 ad ca H locs ls hex hn0 hK hP hD hS hlv)
    · exact k.elim
  · -- iinc
    have hlen := hlen.resolve_left (fun z => Bool.false_ne_true z); subst hlen
    split at k
    · rename_i x hv
      intro ad ca H locs ls hex hn0 hK hP hD hS hlv
      obtain ⟨j, hj⟩ := List.mem_iff_getElem?.mp (cL_in (ad := ad) hv)
      exact lv_iinc hx hb hd hlv.has hj (by rw [of_decide_eq_true hkc]) (by rw [← hlv.1]; exact ldv_lt hv) rfl (fun ls2 h2 => k ad ca H locs ls2 hex hn0 hK hP hD hS (hlv.inc hv h2))
    · exact k.elim
  · -- ldc
    have hlen := hlen.resolve_left (fun z => Bool.false_ne_true z); subst hlen
    split at k
    · rename_i v hv
      intro ad ca H locs ls hex hn0 hK hP hD hS hlv
      rcases G4 _ _ _ _ _ _ hcd hv with ⟨x, rfl, hc⟩ | ⟨q, hq, rfl, rfl, rfl⟩
      · exact lv_ldc hx hb hown (hts _ hc) hd (k ad ca H locs ls hex hn0 hK hP hD hS hlv)
      · refine va_ldcS hx hb hown (hExt.2.2.2.1 q hq) hd ?_
        rw [← hex.1 (1000 + q.2.2.2) (Or.inr (by omega))]
        exact k ad ca H locs ls hex hn0 hK hP hD hS hlv
    · exact k.elim
  · -- ldc_w
    have hlen := hlen.resolve_left (fun z => Bool.false_ne_true z); subst hlen
    split at k
    · rename_i v hv
      intro ad ca H locs ls hex hn0 hK hP hD hS hlv
      obtain ⟨x, rfl, hc⟩ := G5 _ _ _ _ _ _ hcd hv
      exact lv_ldcw hx hb hown (hts _ hc) hd (k ad ca H locs ls hex hn0 hK hP hD hS hlv)
    · exact k.elim
  · -- ldc2_w
    have hlen := hlen.resolve_left (fun z => Bool.false_ne_true z); subst hlen
    split at k
    · rename_i v hv
      intro ad ca H locs ls hex hn0 hK hP hD hS hlv
      obtain ⟨x, rfl, hc⟩ := G6 _ _ _ _ _ _ hcd hv
      exact lv_ldc2 hx hb hown (hts _ hc) hd (k ad ca H locs ls hex hn0 hK hP hD hS hlv)
    · exact k.elim
  · -- arraylength
    have hlen := hlen.resolve_left (fun z => Bool.false_ne_true z); subst hlen
    split at k
    · split at k
      · rename_i hL
        intro ad ca H locs ls hex hn0 hK hP hD hS hlv
        obtain ⟨t0, ht0⟩ := cT_at (ca := ca) hL
        exact va_alen hx hb hK hP _ t0 (cW_at hL) ht0 rfl hd (k ad ca H locs ls hex hn0 hK hP hD hS hlv)
      · exact k.elim
    · exact k.elim
  · -- iaload
    have hlen := hlen.resolve_left (fun z => Bool.false_ne_true z); subst hlen
    split at k
    · split at k
      · rename_i hL
        intro ad ca H locs ls hex hn0 hK hP hD hS hlv
        obtain ⟨t0, ht0⟩ := cT_at (ca := ca) hL
        exact va_iald hx hb hK hP _ t0 (cW_rX (t := 0) hL (by decide)) ht0 k.1 hd (k.2 ad ca H locs ls hex hn0 hK hP hD hS hlv)
      · exact k.elim
    · exact k.elim
  · -- baload
    have hlen := hlen.resolve_left (fun z => Bool.false_ne_true z); subst hlen
    split at k
    · split at k
      · rename_i hL
        intro ad ca H locs ls hex hn0 hK hP hD hS hlv
        obtain ⟨t0, ht0⟩ := cT_at (ca := ca) hL
        exact va_bald hx hb hK hP _ t0 (cW_rX (t := 2) hL (by decide)) ht0 k.1 hd (k.2 ad ca H locs ls hex hn0 hK hP hD hS hlv)
      · rename_i hL
        intro ad ca H locs ls hex hn0 hK hP hD hS hlv
        obtain ⟨t0, ht0⟩ := cT_at (ca := ca) hL
        exact va_zald hx hb hK hP _ t0 (cW_rX (t := 3) hL (by decide)) ht0 k.1 hd (k.2 ad ca H locs ls hex hn0 hK hP hD hS hlv)
      · exact k.elim
    · exact k.elim
  · -- laload
    have hlen := hlen.resolve_left (fun z => Bool.false_ne_true z); subst hlen
    split at k
    · split at k
      · rename_i hL
        intro ad ca H locs ls hex hn0 hK hP hD hS hlv
        obtain ⟨t0, ht0⟩ := cT_at (ca := ca) hL
        exact va_lald hx hb hK hP _ t0 (cW_rY hL) ht0 k.1 hd (k.2 ad ca H locs ls hex hn0 hK hP hD hS hlv)
      · exact k.elim
    · exact k.elim
  · -- iastore
    have hlen := hlen.resolve_left (fun z => Bool.false_ne_true z); subst hlen
    split at k
    · split at k
      · rename_i hL
        intro ad ca H locs ls hex hn0 hK hP hD hS hlv
        obtain ⟨t0, ht0⟩ := cT_at (ca := ca) hL
        refine va_iast hx hb hK hP hD hS _ t0 (cW_rX (t := 0) hL (by decide)) ht0 k.1 hd (fun H1 locs1 hP1 hD1 hS1 => ?_)
        rw [cW_aX (t := 0) hL (by decide)] at hP1 hD1
        exact k.2 ad ca H1 locs1 ls hex hn0 hK hP1 hD1 hS1 hlv
      · exact k.elim
    · exact k.elim
  · -- bastore
    have hlen := hlen.resolve_left (fun z => Bool.false_ne_true z); subst hlen
    split at k
    · split at k
      · rename_i hL
        intro ad ca H locs ls hex hn0 hK hP hD hS hlv
        obtain ⟨t0, ht0⟩ := cT_at (ca := ca) hL
        refine va_bast hx hb hK hP hD hS _ t0 (cW_rX (t := 2) hL (by decide)) ht0 k.1 hd (fun H1 locs1 hP1 hD1 hS1 => ?_)
        rw [cW_aX (t := 2) hL (by decide)] at hP1 hD1
        exact k.2 ad ca H1 locs1 ls hex hn0 hK hP1 hD1 hS1 hlv
      · rename_i hL
        intro ad ca H locs ls hex hn0 hK hP hD hS hlv
        obtain ⟨t0, ht0⟩ := cT_at (ca := ca) hL
        refine va_zast hx hb hK hP hD hS _ t0 (cW_rX (t := 3) hL (by decide)) ht0 k.1 hd (fun H1 locs1 hP1 hD1 hS1 => ?_)
        rw [cW_aX (t := 3) hL (by decide)] at hP1 hD1
        exact k.2 ad ca H1 locs1 ls hex hn0 hK hP1 hD1 hS1 hlv
      · exact k.elim
    · exact k.elim
  · -- lastore
    have hlen := hlen.resolve_left (fun z => Bool.false_ne_true z); subst hlen
    split at k
    · split at k
      · rename_i hL
        intro ad ca H locs ls hex hn0 hK hP hD hS hlv
        obtain ⟨t0, ht0⟩ := cT_at (ca := ca) hL
        refine va_last hx hb hK hP hD hS _ t0 (cW_rY hL) ht0 k.1 hd (fun H1 locs1 hP1 hD1 hS1 => ?_)
        rw [cW_aY hL] at hP1 hD1
        exact k.2 ad ca H1 locs1 ls hex hn0 hK hP1 hD1 hS1 hlv
      · exact k.elim
    · exact k.elim
  · -- getfield
    have hlen := hlen.resolve_left (fun z => Bool.false_ne_true z); subst hlen
    split at k
    · rename_i hf
      split at k
      · rename_i hL
        split at k
        · rename_i hs
          have hk9 := goB_t k; clear k; obtain ⟨hb1, k⟩ := hk9
          have hb1 := Nat.eq_of_beq_eq_true hb1
          subst hb1
          intro ad ca H locs ls hex hn0 hK hP hD hS hlv
          exact snd_get hx hb hts hown hK hP (G2 _ _ _ hf) hL hs hd (k ad ca H locs ls hex hn0 hK hP hD hS hlv)
        · exact k.elim
      · exact k.elim
    · exact k.elim
  · -- putfield
    have hlen := hlen.resolve_left (fun z => Bool.false_ne_true z); subst hlen
    split at k
    · rename_i hf
      split at k
      · rename_i hL
        have hF := G2 _ _ _ hf
        have hPu := G3 _ _ _ _ _ _ _ hcd hf
        split at k
        · rename_i x hs
          have hk9 := goB_t k; clear k; obtain ⟨hb1, k⟩ := hk9
          simp only [Bool.and_eq_true] at hb1
          have hb2 := Nat.eq_of_beq_eq_true hb1.1
          subst hb2
          intro ad ca H locs ls hex hn0 hK hP hD hS hlv
          exact snd_put hx hb hts hown hK hP hD hS hF hPu hL (lt_of_get hs) (by rw [skOk_0 hb1.2]; rfl) (by rw [skOk_0 hb1.2]; rfl) hd (cW_pX hL hs (by decide)) (fun H1 locs1 hP1 hD1 hS1 => k ad ca H1 locs1 ls hex hn0 hK hP1 hD1 hS1 hlv)
        · rename_i x hs
          have hk9 := goB_t k; clear k; obtain ⟨hb1, k⟩ := hk9
          simp only [Bool.and_eq_true] at hb1
          have hb2 := Nat.eq_of_beq_eq_true hb1.1
          subst hb2
          intro ad ca H locs ls hex hn0 hK hP hD hS hlv
          exact snd_put hx hb hts hown hK hP hD hS hF hPu hL (lt_of_get hs) (by rw [skOk_1 hb1.2]; rfl) (by rw [skOk_1 hb1.2]; rfl) hd (cW_pY hL hs) (fun H1 locs1 hP1 hD1 hS1 => k ad ca H1 locs1 ls hex hn0 hK hP1 hD1 hS1 hlv)
        · rename_i x hs
          have hk9 := goB_t k; clear k; obtain ⟨hb1, k⟩ := hk9
          simp only [Bool.and_eq_true] at hb1
          have hb2 := Nat.eq_of_beq_eq_true hb1.1
          subst hb2
          intro ad ca H locs ls hex hn0 hK hP hD hS hlv
          exact snd_put hx hb hts hown hK hP hD hS hF hPu hL (lt_of_get hs) (by rw [skOk_2 hb1.2]; exact (bool01 k.1).1) (by rw [skOk_2 hb1.2]; exact (bool01 k.1).2) hd (cW_pX hL hs (by decide)) (fun H1 locs1 hP1 hD1 hS1 => k.2 ad ca H1 locs1 ls hex hn0 hK hP1 hD1 hS1 hlv)
        · rename_i o b hs
          have hk9 := goB_t k; clear k; obtain ⟨hb1, k⟩ := hk9
          simp only [Bool.and_eq_true] at hb1
          have hb2 := Nat.eq_of_beq_eq_true hb1.1
          subst hb2
          intro ad ca H locs ls hex hn0 hK hP hD hS hlv
          have hz := skOk_r hb1.2 (v := .ref (ad b)) (Or.inr ⟨_, rfl⟩)
          exact snd_put (v := .ref (ad b)) hx hb hts hown hK hP hD hS hF hPu hL (lt_of_get hs) hz.1 hz.2 hd (cW_pR (o2 := some b) hL hs) (fun H1 locs1 hP1 hD1 hS1 => k ad ca H1 locs1 ls (by rw [List.length_set]; exact hex) (by rw [List.length_set]; exact hn0) (by rw [cT_setO hL]; exact hK) hP1 hD1 hS1 hlv)
        · rename_i o hs
          have hk9 := goB_t k; clear k; obtain ⟨hb1, k⟩ := hk9
          simp only [Bool.and_eq_true] at hb1
          have hb2 := Nat.eq_of_beq_eq_true hb1.1
          subst hb2
          intro ad ca H locs ls hex hn0 hK hP hD hS hlv
          have hz := skOk_r hb1.2 (v := .null) (Or.inl rfl)
          exact snd_put (v := .null) hx hb hts hown hK hP hD hS hF hPu hL (lt_of_get hs) hz.1 hz.2 hd (cW_pR (o2 := none) hL hs) (fun H1 locs1 hP1 hD1 hS1 => k ad ca H1 locs1 ls (by rw [List.length_set]; exact hex) (by rw [List.length_set]; exact hn0) (by rw [cT_setO hL]; exact hK) hP1 hD1 hS1 hlv)
        · exact k.elim
      · exact k.elim
    · exact k.elim
  · -- new
    have hlen := hlen.resolve_left (fun z => Bool.false_ne_true z); subst hlen
    split at k
    · rename_i E hE
      have hk9 := goB_t k; clear k; obtain ⟨hb1, k⟩ := hk9
      simp only [Bool.and_eq_true] at hb1
      rw [hmc, hms] at hb1
      exact snd_throw F hE (G7 _ _ hE) (Nat.le_of_ble_eq_true hb1.1.1) (Nat.le_of_ble_eq_true hb1.1.2) (Nat.le_of_ble_eq_true hb1.2) k
    · split at k
      · rename_i ci sl hN
        have hk9 := goB_t k; clear k; obtain ⟨hb1, k⟩ := hk9
        simp only [Bool.and_eq_true] at hb1
        rw [hmc, hms] at hb1
        exact snd_new F (G8 _ _ _ hN) hd (Nat.le_of_ble_eq_true hb1.1.1.1.1.1) (Nat.le_of_ble_eq_true hb1.1.1.1.1.2) (Nat.lt_succ_of_le (Nat.le_of_ble_eq_true hb1.1.1.1.2)) hb1.1.1.2 hb1.1.2 hb1.2 k
      · exact k.elim
  · -- newarray
    have hlen := hlen.resolve_left (fun z => Bool.false_ne_true z); subst hlen
    split at k
    · rename_i n r tag hT
      obtain ⟨k1, k2, k3, k⟩ := k
      have hk9 := goB_t k; clear k; obtain ⟨hb1, k⟩ := hk9
      simp only [Bool.and_eq_true] at hb1
      rw [hmc] at hb1
      rw [hms] at k3
      exact snd_newa F hT hd k1 k2 (Nat.le_of_ble_eq_true hb1.1.1.1.1) k3 (Nat.lt_succ_of_le (Nat.le_of_ble_eq_true hb1.1.1.1.2)) hb1.1.1.2 hb1.1.2 hb1.2 k
    · exact k.elim
  · -- invokevirtual
    have hlen := hlen.resolve_left (fun z => Bool.false_ne_true z)
    exact hcall len hlen k
  · -- invokestatic
    have hlen := hlen.resolve_left (fun z => Bool.false_ne_true z)
    exact hcall len hlen k
  · -- invokespecial
    have hlen := hlen.resolve_left (fun z => Bool.false_ne_true z)
    split at k
    · rename_i hno
      subst hlen
      split at k
      · have hk9 := goB_t k; clear k; obtain ⟨hb1, k⟩ := hk9
        have hb1 := Nat.le_of_ble_eq_true hb1
        intro ad ca H locs ls hex hn0 hK hP hD hS hlv
        refine W.objInit hx hb hown (hts _ (G9 _ _ _ _ _ hcd hno)) (hts _ objInit_in.1) (hts _ objInit_in.2) rfl (by rw [hml]; exact hlv.2.1) rfl hd hRf ?_ (k ad ca H locs ls hex hn0 hK hP hD hS hlv)
        have h8 := room8 (m := m) (pc := pc) (ls := ls) (st := []) (rest := List.map (cv ad) (by assumption)) (by rw [cv_sum]; exact hb1)
        exact Nat.le_trans (Nat.add_le_add_right h8 12) hRl
      · exact k.elim
    · exact hcall len hlen k
  · -- ireturn
    have hlen := hlen.resolve_left (fun z => Bool.false_ne_true z); subst hlen
    split at k
    · rename_i x
      have hk9 := goB_t k; clear k; obtain ⟨hb1, k⟩ := hk9
      simp only [Bool.and_eq_true] at hb1
      rw [hmc, hms] at hb1
      have hret := G10 _ _ _ _ hcd
      intro ad ca H locs ls hex hn0 hK hP hD hS hlv
      refine W.widen (k := mc) (n := ms) (Nat.le_of_ble_eq_true hb1.1) (Nat.le_of_ble_eq_true hb1.2) (vx_ret ?_)
      split at k
      · rename_i hbz
        rw [hbz] at hret
        exact W.zret hx hb (by rw [hr]; exact hret) (bool01 k.1).1 (fun t ht hW => ⟨⟨_, L, X, Y, rfl, Or.inr (Or.inl ⟨x, rfl⟩), k.2, ad, ca, hex, hn0, by rw [ht]; exact hP, va_K.moved hW.alike hK, hD⟩, hS.F ht⟩) hS.2.2 hd hlocks
      · rename_i hbz
        rw [hbz] at hret
        exact W.iret hx hb (by rw [hr]; exact hret) (fun t ht hW => ⟨⟨_, L, X, Y, rfl, Or.inr (Or.inl ⟨x, rfl⟩), k, ad, ca, hex, hn0, by rw [ht]; exact hP, va_K.moved hW.alike hK, hD⟩, hS.F ht⟩) hS.2.2 hd hlocks
    · exact k.elim
  · -- lreturn
    have hlen := hlen.resolve_left (fun z => Bool.false_ne_true z); subst hlen
    split at k
    · rename_i x
      have hk9 := goB_t k; clear k; obtain ⟨hb1, k⟩ := hk9
      simp only [Bool.and_eq_true] at hb1
      rw [hmc, hms] at hb1
      have hret := G11 _ _ _ _ hcd
      intro ad ca H locs ls hex hn0 hK hP hD hS hlv
      refine W.widen (k := mc) (n := ms) (Nat.le_of_ble_eq_true hb1.1) (Nat.le_of_ble_eq_true hb1.2) (vx_ret ?_)
      exact W.lret hx hb (by rw [hr]; exact hret) (fun t ht hW => ⟨⟨_, L, X, Y, rfl, Or.inr (Or.inr ⟨x, rfl⟩), k, ad, ca, hex, hn0, by rw [ht]; exact hP, va_K.moved hW.alike hK, hD⟩, hS.F ht⟩) hS.2.2 hd hlocks
    · exact k.elim
  · -- return
    have hlen := hlen.resolve_left (fun z => Bool.false_ne_true z); subst hlen
    split at k
    · have hk9 := goB_t k; clear k; obtain ⟨hb1, k⟩ := hk9
      simp only [Bool.and_eq_true] at hb1
      rw [hmc, hms] at hb1
      have hret := G12 _ _ _ _ hcd
      intro ad ca H locs ls hex hn0 hK hP hD hS hlv
      refine W.widen (k := mc) (n := ms) (Nat.le_of_ble_eq_true hb1.1) (Nat.le_of_ble_eq_true hb1.2) (vx_ret ?_)
      exact W.vret hx hb (by rw [hr]; exact hret) (fun t ht hW => ⟨⟨_, L, X, Y, rfl, Or.inl rfl, k, ad, ca, hex, hn0, by rw [ht]; exact hP, va_K.moved hW.alike hK, hD⟩, hS.F ht⟩) hS.2.2 hd hlocks
    · exact k.elim
  · -- the others
    split at k
    · rename_i v hv
      intro ad ca H locs ls hex hn0 hK hP hD hS hlv
      exact snd_load hx hb hd hlen hlv hv (k ad ca H locs ls hex hn0 hK hP hD hS hlv)
    · split at k
      · split at k
        · rename_i lv2 hv
          intro ad ca H locs ls hex hn0 hK hP hD hS hlv
          exact snd_store hx hb hd hlen hlv hv (fun ls2 h2 => k ad ca H locs ls2 hex hn0 hK hP hD hS h2)
        · split at k
          · rename_i st2 hv
            intro ad ca H locs ls hex hn0 hK hP hD hS hlv
            exact snd_pure hx hb hd hlen hkc hv (k ad ca H locs ls hex hn0 hK hP hD hS hlv)
          · exact k.elim
      · split at k
        · rename_i st2 hv
          intro ad ca H locs ls hex hn0 hK hP hD hS hlv
          exact snd_pure hx hb hd hlen hkc hv (k ad ca H locs ls hex hn0 hK hP hD hS hlv)
        · exact k.elim
/-- every call of a method is sound, wherever it runs -/
def gCalls (l : Launch) (D : va_G) (own : String) (cc : ByteArray) (nL : Nat) (R : Room) (g : Gm) : Prop :=
  ∀ (p : Program) (e : Env) (s : State) (m : MethodId) (args : Array Value) (below : List Frame) (meth : Method) (c : Code), CallFix p m c cc nL s args TG own → ∀ pc ce, g.2.2.1 pc = some ce → CallSnd p l e R s m args below meth c D nL pc ce.1 ce.2.1 ce.2.2.2.1.1 ce.2.2.2.1.2 ce.2.2.2.2.2 ∧ ceStat ce
theorem pm_sound {y : MethodName} {rm : Room} (hy : plainName y.cls = true) (G : gOk y.cls y.name cc ret g) (hcs : gCalls l D y.cls cc nL rm g) (h1 : gMc g = rm.cells) (h2 : gMs g = rm.slots) (h3 : 1 ≤ rm.frames ∧ 20 ≤ rm.locals) (h4 : (∃ pc E, g.2.2.2.1 pc = some E) → 5 < rm.frames ∧ 89 ≤ rm.locals ∧ l.stackTraces = false) : pmMet l D y cc nL ret rm (pmT g nL) := by
  intro ad ca av L X Y Q sz hT
  obtain ⟨hav, hT⟩ := goB_t hT
  have hav := Nat.le_of_ble_eq_true hav
  refine vx_ofW (cc := cc) (maxL := nL) (ret := ret) hy rfl ?_
  intro p e s m args below meth c s₁ B hml htab hv
  obtain ⟨rfl, hsz, hP, hK, hD0, hE⟩ := hv
  subst hsz
  have hts : ∀ w ∈ TG, w.before (av.map (cv ad)).toArray s = true := fun w hw => atoms_spec (ws := Cond.code y cc nL ret :: TG) B.pre w (List.mem_cons_of_mem _ hw)
  have hown : s.vm.findClass y.cls = some m.cls := findClass_of_methodNamed B.named
  have hnm : meth.name = y.name := (name_of_methodNamed B.named B.method).1
  have C : CallFix p m c cc nL s (av.map (cv ad)).toArray TG y.cls := ⟨B.exec, B.bytes, hml, hown, hts⟩
  have hA : ∀ q : Nat, s.heap.size ≤ q → va_A (cW ad ca L X Y) s.heap.size q := fun q h => Or.inr h
  have F : pmFix p l rm s m (av.map (cv ad)).toArray meth c cc nL rm.cells rm.slots y.cls ret (va_A (cW ad ca L X Y) s.heap.size) ad g := ⟨C, B.notSynchronized, B.returns, fun x hx => htab x hx, rfl, rfl, h1, h2, hE, hA, h3.1, h3.2, h4⟩
  have hl : (lg_sl (av.map (cv ad))).length ≤ nL := by rw [← enL_len]; exact hav
  rw [lg_entry_eq]
  have key := hT (pmPs p l e rm s m (av.map (cv ad)).toArray below meth c D nL rm.cells rm.slots (va_A (cW ad ca L X Y) s.heap.size) ad ca L.length Q) (fun pc lv st L X Y z k => snd_step F (hnm ▸ G) (hcs p e s m _ below meth c C) pc lv st L X Y z k)
  exact key ad ca s.heap [] _ exA_refl (Nat.le_refl _) hK hP hD0.self va_S.rf (lvOk.entry hl)
end SndMain
