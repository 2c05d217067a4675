/-! the law's walk in pieces: its rows by lists, its calls, its frames -/
def rwOk (l : List Cd) : Bool := l.all (fun q => decide (cdAt kL_law q.1 = some q.2))
theorem rw_at {l : List Cd} (h : rwOk l = true) (i : Nat) {pc len : Nat} {a : Instr} {tg : List Nat} {kc : Int32} (hq : l[i]? = some (pc, a, len, tg, kc)) : cdAt kL_law pc = some (a, len, tg, kc) := of_decide_eq_true (List.all_eq_true.mp h (pc, a, len, tg, kc) (List.mem_of_getElem? hq))
/-- the law's locals in turn n: script, class, reference, out, i, and two of a turn -/
def lvL (n : Nat) (v5 v6 : Option Value) : Lv := [some (.ref 1999), some (.ref 0), some (.ref 79), some (.ref 108), some (.int (nI (6 * n))), v5, v6]
def lvI (v : Option Value) : Prop := v = none ∨ ∃ x : Int32, v = some (.int x)
def argR (p j : Nat) (c : Int) : List Cd := [(p, .aload_n 0, 1, [], 0), (p + 1, .iload 4, 2, [], 0), (p + 3, .iconst c, 1, [], nI j), (p + 4, .iadd, 1, [], 0), (p + 5, .iaload, 1, [], 0)]
def booR (p : Nat) : List Cd := [(p, .ifCond .eq 7, 3, [p + 7], 0), (p + 3, .iconst 1, 1, [], nI 1), (p + 4, .goto 4, 3, [p + 8], 0), (p + 7, .iconst 0, 1, [], nI 0)]
/-- 'x != 0' -/
def bz (x : Int32) : Int32 := if x = 0 then nI 0 else nI 1
theorem bz01 (x : Int32) : bz x = nI 0 ∨ bz x = nI 1 := by
  unfold bz
  by_cases e : x = 0
  · rw [if_pos e]; exact Or.inl rfl
  · rw [if_neg e]; exact Or.inr rfl
/-- a boolean as a long -/
def gz (x : Int32) : Int64 := if x = 0 then lN 0 else lN 1
def lCk (rc : Option Nat) (na : Nat) (sel : List Nat) (L Lc Lc2 : Ly) (lv : Lv) (st : List Value) : Bool := rcOk rc (st.take na).reverse L && Nat.ble na st.length && Nat.ble (((st.drop na).map fun v => v.category).sum) 8 && ((st.take na).all (okV sel) && (Nat.beq Lc2.length Lc.length || (lv.all (okA L.length) && st.all (fun v => okA L.length (some v)) && L.all (okB L.length))))
def cLi (Lc : Ly) (sel : List Nat) (n : Nat) (X : HX) (Y : HY) (C : Int32 → HX → HY → Prop) : Qt := fun res L3 X3 Y3 => L3 = Lc ∧ ∃ x, res = .inl (some (.int x)) ∧ C x (mg sel n X X3) (mg sel n Y Y3)
def cLl (Lc : Ly) (sel : List Nat) (n : Nat) (X : HX) (Y : HY) (C : Int64 → HX → HY → Prop) : Qt := fun res L3 X3 Y3 => L3 = Lc ∧ ∃ x, res = .inl (some (.long x)) ∧ C x (mg sel n X X3) (mg sel n Y Y3)
def cLv (Lc : Ly) (sel : List Nat) (n : Nat) (X : HX) (Y : HY) (C : HX → HY → Prop) : Qt := fun res L3 X3 Y3 => L3 = Lc ∧ res = .inl none ∧ C (mg sel n X X3) (mg sel n Y Y3)
section Rws
variable {xs : Nat → Int32} {N : Nat} {Q : Qt} {p pc : Nat} {lv : Lv} {st r : List Value} {L : Ly} {X : HX} {Y : HY} {z : Nat × Nat} {tg : List Nat} {kc : Int32} {i : Instr} {v : Value} {x y : Int32} {u w : Int64} {n j len : Nat} {v5 v6 : Option Value} {b : Bool}
theorem r_load (m : Nat) (hc : cdAt kL_law pc = some (i, len, tg, kc)) (hl : loadI i lv = some v) (hn : pc + len = m) (k : WPl ggL xs N Q m lv (v :: st) L X Y z) : WPl ggL xs N Q pc lv st L X Y z := l_load ggL_m m (show cdAt (ggL L).1 pc = _ from hc) hl hn k
theorem r_stor (m : Nat) (lv2 : Lv) (hc : cdAt kL_law pc = some (i, len, tg, kc)) (hl : storeI i lv v = some lv2) (hn : pc + len = m) (k : WPl ggL xs N Q m lv2 st L X Y z) : WPl ggL xs N Q pc lv (v :: st) L X Y z := l_store ggL_m m lv2 (show cdAt (ggL L).1 pc = _ from hc) hl hn k
theorem r_arg {c : Int} (h : rwOk (argR p j c) = true) (hj : 6 * n + j < N) (hN : N ≤ 3072) (k : WPl ggL xs N Q (p + 6) (lvL n v5 v6) (.int (xs (6 * n + j)) :: st) L X Y z) : WPl ggL xs N Q p (lvL n v5 v6) st L X Y z := by
  refine l_load ggL_m (p + 1) (show cdAt (ggL L).1 p = _ from rw_at h 0 rfl) rfl rfl ?_
  refine l_load ggL_m (p + 3) (show cdAt (ggL L).1 (p + 1) = _ from rw_at h 1 rfl) rfl rfl ?_
  refine l_pure ggL_m (p + 4) (.int (nI j) :: .int (nI (6 * n)) :: .ref 1999 :: st) (show cdAt (ggL L).1 (p + 3) = _ from rw_at h 2 rfl) rfl rfl ?_
  refine l_pure ggL_m (p + 5) (.int (nI (6 * n) + nI j) :: .ref 1999 :: st) (show cdAt (ggL L).1 (p + 4) = _ from rw_at h 3 rfl) rfl rfl ?_
  rw [m_add]
  refine l_sld ggL_m (p + 6) (show cdAt (ggL L).1 (p + 5) = _ from rw_at h 4 rfl) rfl ((m_in (by omega)).mpr hj) ?_
  rw [m_clamp (by omega)]
  exact k
theorem r_boo (h : rwOk (booR p) = true) (k : WPl ggL xs N Q (p + 8) lv (.int (bz x) :: st) L X Y z) : WPl ggL xs N Q p lv (.int x :: st) L X Y z := by
  refine l_if ggL_m (p + 7) (p + 3) (show cdAt (ggL L).1 p = _ from rw_at h 0 rfl) rfl (fun e => ?_) (fun e => ?_)
  · have e : x = 0 := e
    refine l_pure ggL_m (p + 8) (.int (nI 0) :: st) (show cdAt (ggL L).1 (p + 7) = _ from rw_at h 3 rfl) rfl rfl ?_
    unfold bz at k
    rw [if_pos e] at k
    exact k
  · have e : ¬ x = 0 := e
    refine l_pure ggL_m (p + 4) (.int (nI 1) :: st) (show cdAt (ggL L).1 (p + 3) = _ from rw_at h 1 rfl) rfl rfl ?_
    unfold bz at k
    rw [if_neg e] at k
    exact l_goto ggL_m (p + 8) (show cdAt (ggL L).1 (p + 4) = _ from rw_at h 2 rfl) k
theorem r_goto (m : Nat) {off : Int} (hc : cdAt kL_law pc = some (.goto off, len, [m], kc)) (k : WPl ggL xs N Q m lv st L X Y z) : WPl ggL xs N Q pc lv st L X Y z := l_goto ggL_m m (show cdAt (ggL L).1 pc = _ from hc) k
theorem r_eq {off : Int} (hc : cdAt kL_law pc = some (.if_icmp .eq off, 3, [2055], kc)) (e : y = x) (k : WPl ggL xs N Q 2055 lv r L X Y z) : WPl ggL xs N Q pc lv (.int y :: .int x :: r) L X Y z := l_icmp ggL_m 2055 (pc + 3) (show cdAt (ggL L).1 pc = _ from hc) rfl (fun _ => k) (fun q => absurd e.symm q)
theorem r_leq {off : Int} (h : rwOk [(pc, .lcmp, 1, [], 0), (pc + 1, .ifCond .eq off, 3, [2055], 0)] = true) (e : w = u) (k : WPl ggL xs N Q 2055 lv r L X Y z) : WPl ggL xs N Q pc lv (.long w :: .long u :: r) L X Y z := by
  refine l_lcmp ggL_m (pc + 1) (show cdAt (ggL L).1 pc = _ from rw_at h 0 rfl) rfl ?_
  exact l_if ggL_m 2055 (pc + 1 + 3) (show cdAt (ggL L).1 (pc + 1) = _ from rw_at h 1 rfl) rfl (fun _ => k) (fun q => absurd (m_cmp0.mpr e.symm) q)
theorem l_inv {gg : Ly → Gm} (hg : ∀ L, Gmono (gg L)) {ce : Ce} (hc : cdAt (gg L).1 pc = some (i, len, tg, kc)) (hi : isInv i = true) (hce : (gg L).2.2.1 pc = some ce) (k : pmCall (gg L) Q (WPl gg xs N Q) pc len lv st L X Y z) : WPl gg xs N Q pc lv st L X Y z := by
  refine WPl.stp hg ?_
  unfold stepP
  simp only [hc]
  unfold isInv at hi
  split at hi
  · exact k
  · exact k
  · simp only [hce]; exact k
  · cases hi
variable {T : Tm} {na : Nat} {c1 c2 : Nat} {rc : Option Nat} {sel : List Nat} {Lc Lc2 L2 : Ly} {z1 z2 : Nat}
theorem r_callG {rk : Nat} (hc : cdAt kL_law pc = some (i, 3, tg, kc)) (hi : isInv i = true) (hce : (ggL L).2.2.1 pc = some (T, na, rk, (c1, c2), some (L, sel, Lc, Lc2, L2), rc)) (hck : lCk rc na sel L Lc Lc2 lv st = true) (hz : z1 + c1 ≤ 601024 ∧ z2 + c2 ≤ 7293034)
    (hT : T ((st.take na).reverse.map (rnV sel)) Lc (sb sel X) (sb sel Y) (fun res L3 X3 Y3 => L3 = Lc2 ∧ ((retK rk res fun v => WPl ggL xs N Q (pc + 3) lv (v ++ st.drop na) L2 (mg sel L.length X X3) (mg sel L.length Y Y3) (z1 + c1, z2 + c2)) ∨ ∃ E, res = .inr E ∧ Q (.inr E) L2 (mg sel L.length X X3) (mg sel L.length Y Y3)))) : WPl ggL xs N Q pc lv st L X Y (z1, z2) := by
  refine l_inv ggL_m (show cdAt (ggL L).1 pc = _ from hc) hi hce ?_
  unfold pmCall
  rw [hce]
  unfold lCk at hck
  simp only [Bool.and_eq_true] at hck
  obtain ⟨⟨⟨k1, k2⟩, k3⟩, k4, k5⟩ := hck
  have e1 : Nat.ble (z1 + c1) (gMc (ggL L)) = true := Nat.ble_eq_true_of_le hz.1
  have e2 : Nat.ble (z2 + c2) (gMs (ggL L)) = true := Nat.ble_eq_true_of_le hz.2
  have e3 : ceChk (T, na, rk, (c1, c2), some (L, sel, Lc, Lc2, L2), rc) lv st L = true := by
    show ((st.take na).all (okV sel) && (Nat.beq Lc2.length Lc.length || (lv.all (okA L.length) && st.all (fun v => okA L.length (some v)) && L.all (okB L.length)))) = true
    rw [k4, k5]; rfl
  show goB (rcOk rc (st.take na).reverse L && Nat.ble na st.length && Nat.ble (z1 + c1) (gMc (ggL L)) && Nat.ble (z2 + c2) (gMs (ggL L)) && Nat.ble (((st.drop na).map fun v => v.category).sum) 8 && ceChk (T, na, rk, (c1, c2), some (L, sel, Lc, Lc2, L2), rc) lv st L) _
  rw [k1, k2, k3, e1, e2, e3]
  exact ⟨rfl, hT⟩
theorem r_call1 (m : Nat) (as : List Value) {C : Int32 → HX → HY → Prop} (hc : cdAt kL_law pc = some (i, 3, tg, kc)) (hi : isInv i = true) (hce : lk (caLaw b) pc = some (T, na, 1, (c1, c2), some (LLw b, sel, Lc, Lc2, L2), rc)) (hck : lCk rc na sel (LLw b) Lc Lc2 lv st = true) (hn : pc + 3 = m) (ha : (st.take na).reverse.map (rnV sel) = as) (hr : st.drop na = r) (hz : z1 + c1 ≤ 601024 ∧ z2 + c2 ≤ 7293034)
    (hT : T as Lc (sb sel X) (sb sel Y) (cLi Lc2 sel (LLw b).length X Y C)) (k : ∀ x X1 Y1, C x X1 Y1 → WPl ggL xs N Q m lv (.int x :: r) L2 X1 Y1 (z1 + c1, z2 + c2)) : WPl ggL xs N Q pc lv st (LLw b) X Y (z1, z2) := by
  subst hn; subst ha; subst hr
  refine r_callG hc hi (by rw [ggL_b]; exact hce) hck hz ?_
  refine moLaw b _ (lk_in hce) _ _ _ _ _ _ (fun res L3 X3 Y3 h9 => ?_) hT
  obtain ⟨e1, x, e2, h9⟩ := h9
  exact ⟨e1, Or.inl ⟨x, e2, k x _ _ h9⟩⟩
theorem r_call2 (m : Nat) (as : List Value) {C : Int64 → HX → HY → Prop} (hc : cdAt kL_law pc = some (i, 3, tg, kc)) (hi : isInv i = true) (hce : lk (caLaw b) pc = some (T, na, 2, (c1, c2), some (LLw b, sel, Lc, Lc2, L2), rc)) (hck : lCk rc na sel (LLw b) Lc Lc2 lv st = true) (hn : pc + 3 = m) (ha : (st.take na).reverse.map (rnV sel) = as) (hr : st.drop na = r) (hz : z1 + c1 ≤ 601024 ∧ z2 + c2 ≤ 7293034)
    (hT : T as Lc (sb sel X) (sb sel Y) (cLl Lc2 sel (LLw b).length X Y C)) (k : ∀ x X1 Y1, C x X1 Y1 → WPl ggL xs N Q m lv (.long x :: r) L2 X1 Y1 (z1 + c1, z2 + c2)) : WPl ggL xs N Q pc lv st (LLw b) X Y (z1, z2) := by
  subst hn; subst ha; subst hr
  refine r_callG hc hi (by rw [ggL_b]; exact hce) hck hz ?_
  refine moLaw b _ (lk_in hce) _ _ _ _ _ _ (fun res L3 X3 Y3 h9 => ?_) hT
  obtain ⟨e1, x, e2, h9⟩ := h9
  exact ⟨e1, Or.inl ⟨x, e2, k x _ _ h9⟩⟩
theorem r_call0 (m : Nat) (as : List Value) {C : HX → HY → Prop} (hc : cdAt kL_law pc = some (i, 3, tg, kc)) (hi : isInv i = true) (hce : lk (caLaw b) pc = some (T, na, 0, (c1, c2), some (LLw b, sel, Lc, Lc2, L2), rc)) (hck : lCk rc na sel (LLw b) Lc Lc2 lv st = true) (hn : pc + 3 = m) (ha : (st.take na).reverse.map (rnV sel) = as) (hr : st.drop na = r) (hz : z1 + c1 ≤ 601024 ∧ z2 + c2 ≤ 7293034)
    (hT : T as Lc (sb sel X) (sb sel Y) (cLv Lc2 sel (LLw b).length X Y C)) (k : ∀ X1 Y1, C X1 Y1 → WPl ggL xs N Q m lv r L2 X1 Y1 (z1 + c1, z2 + c2)) : WPl ggL xs N Q pc lv st (LLw b) X Y (z1, z2) := by
  subst hn; subst ha; subst hr
  refine r_callG hc hi (by rw [ggL_b]; exact hce) hck hz ?_
  refine moLaw b _ (lk_in hce) _ _ _ _ _ _ (fun res L3 X3 Y3 h9 => ?_) hT
  obtain ⟨e1, e2, h9⟩ := h9
  exact ⟨e1, Or.inl ⟨e2, k _ _ h9⟩⟩
end Rws
