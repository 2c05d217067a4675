/-! the ends of a call in the law: what was thrown, what was answered -/
def taiR (p : Nat) (off : Int) : List Cd := [(p, .istore 6, 2, [], 0), (p + 2, .aload_n 2, 1, [], 0), (p + 3, .invokevirtual 112, 3, [], 0), (p + 6, .iload 5, 2, [], 0), (p + 8, .if_icmp .eq 5, 3, [p + 13], 0), (p + 13, .iload 5, 2, [], 0), (p + 15, .ifCond .ne 15, 3, [p + 30], 0), (p + 18, .aload_n 3, 1, [], 0), (p + 19, .iconst 0, 1, [], nI 0), (p + 20, .laload, 1, [], 0), (p + 21, .iload 6, 2, [], 0), (p + 23, .i2l, 1, [], 0), (p + 24, .lcmp, 1, [], 0), (p + 25, .ifCond .eq 5, 3, [p + 30], 0), (p + 30, .goto off, 3, [2055], 0)]
def zaiR (p : Nat) (off : Int) : List Cd := [(p, .istore 6, 2, [], 0), (p + 2, .aload_n 2, 1, [], 0), (p + 3, .invokevirtual 112, 3, [], 0), (p + 6, .iload 5, 2, [], 0), (p + 8, .if_icmp .eq 5, 3, [p + 13], 0), (p + 13, .iload 5, 2, [], 0), (p + 15, .ifCond .ne 22, 3, [p + 37], 0), (p + 18, .aload_n 3, 1, [], 0), (p + 19, .iconst 0, 1, [], nI 0), (p + 20, .laload, 1, [], 0), (p + 21, .iload 6, 2, [], 0), (p + 23, .ifCond .eq 7, 3, [p + 30], 0), (p + 26, .lconst 1, 1, [], 0), (p + 27, .goto 4, 3, [p + 31], 0), (p + 30, .lconst 0, 1, [], 0), (p + 31, .lcmp, 1, [], 0), (p + 32, .ifCond .eq 5, 3, [p + 37], 0), (p + 37, .goto off, 3, [2055], 0)]
def vaiR (p : Nat) (off : Int) : List Cd := [(p, .aload_n 2, 1, [], 0), (p + 1, .invokevirtual 112, 3, [], 0), (p + 4, .iload 5, 2, [], 0), (p + 6, .if_icmp .eq 5, 3, [p + 11], 0), (p + 11, .goto off, 3, [2055], 0)]
theorem LLw_o (b : Bool) : (LLw b)[108]? = some (.inr (1, 1)) := by cases b <;> decide +kernel
abbrev thrC (b : Bool) : Ce := (tX9_thrown, 1, 1, (0, 0), some (LLw b, sel9, LX9 ++ [], LX9 ++ [], LLw b), some 9)
section Tai
variable {xs : Nat → Int32} {N : Nat} {Q : Qt} {p : Nat} {X : HX} {Y : HY} {x k : Int32} {n z1 z2 : Nat} {v5 v6 : Option Value} {b : Bool} {v w : Sv} {off : Int}
theorem r_thr (m : Nat) {lv : Lv} (hc : cdAt kL_law p = some (.invokevirtual 112, 3, [], 0)) (hce : lk (caLaw b) p = some (thrC b)) (hn : p + 3 = m) (hz : z1 ≤ 601024 ∧ z2 ≤ 7293034) (h8 : J8 b X Y v) (h9 : J9 X Y w) (K : ∀ X1 Y1, J8 b X1 Y1 v → J9 X1 Y1 w → Y1 108 = Y 108 → WPl ggL xs N Q m lv [.int (X 79 0)] (LLw b) X1 Y1 (z1, z2)) : WPl ggL xs N Q p lv [.ref 79] (LLw b) X Y (z1, z2) := by
  refine r_call1 (b := b) m [.ref 0] hc rfl hce (by cases b <;> rfl) hn rfl rfl hz (g9t h8 h9) (fun q X1 Y1 h => ?_)
  obtain ⟨a1, a2, a3, a4⟩ := h
  subst a3
  exact K X1 Y1 a1 a2 a4
theorem r_tai (h : rwOk (taiR p off) = true) (hce : lk (caLaw b) (p + 3) = some (thrC b)) (hz : z1 ≤ 601024 ∧ z2 ≤ 7293034) (hC : C9w b v w Int32.toInt64 k x X Y) (K : ∀ X1 Y1, J8 b X1 Y1 v → J9 X1 Y1 w → WPl ggL xs N Q 2055 (lvL n (some (.int k)) (some (.int x))) [] (LLw b) X1 Y1 (z1, z2)) : WPl ggL xs N Q p (lvL n (some (.int k)) v6) [.int x] (LLw b) X Y (z1, z2) := by
  obtain ⟨h8, h9, c1, c2⟩ := hC
  refine r_stor (p + 2) (lvL n (some (.int k)) (some (.int x))) (rw_at h 0 rfl) rfl rfl ?_
  refine r_load (p + 3) (v := .ref 79) (rw_at h 1 rfl) rfl rfl ?_
  refine r_thr (p + 6) (rw_at h 2 rfl) hce rfl hz h8 h9 (fun X1 Y1 a1 a2 a3 => ?_)
  rw [c1]
  refine r_load (p + 8) (v := .int k) (rw_at h 3 rfl) rfl rfl ?_
  refine l_icmp ggL_m (p + 13) (p + 8 + 3) (show cdAt (ggL (LLw b)).1 (p + 8) = _ from rw_at h 4 rfl) rfl (fun _ => ?_) (fun q => absurd rfl q)
  refine r_load (p + 15) (v := .int k) (rw_at h 5 rfl) rfl rfl ?_
  have G := r_goto (L := LLw b) (lv := lvL n (some (.int k)) (some (.int x))) (st := []) (z := (z1, z2)) 2055 (rw_at h 14 rfl) (K X1 Y1 a1 a2)
  refine l_if ggL_m (p + 30) (p + 18) (show cdAt (ggL (LLw b)).1 (p + 15) = _ from rw_at h 6 rfl) rfl (fun _ => G) (fun q => ?_)
  have k0 : k = nI 0 := Classical.not_not.mp q
  refine r_load (p + 19) (v := .ref 108) (rw_at h 7 rfl) rfl rfl ?_
  refine l_pure ggL_m (p + 20) [.int (nI 0), .ref 108] (show cdAt (ggL (LLw b)).1 (p + 19) = _ from rw_at h 8 rfl) rfl rfl ?_
  refine l_lald ggL_m (p + 21) (show cdAt (ggL (LLw b)).1 (p + 20) = _ from rw_at h 9 rfl) (LLw_o b) rfl v1_0 ?_
  rw [m_clamp (by omega), a3, c2 k0]
  refine r_load (p + 23) (v := .int x) (rw_at h 10 rfl) rfl rfl ?_
  refine l_pure ggL_m (p + 24) [.long x.toInt64, .long x.toInt64] (show cdAt (ggL (LLw b)).1 (p + 23) = _ from rw_at h 11 rfl) rfl rfl ?_
  refine l_lcmp ggL_m (p + 25) (show cdAt (ggL (LLw b)).1 (p + 24) = _ from rw_at h 12 rfl) rfl ?_
  exact l_if ggL_m (p + 30) (p + 25 + 3) (show cdAt (ggL (LLw b)).1 (p + 25) = _ from rw_at h 13 rfl) rfl (fun _ => G) (fun q => absurd (m_cmp0.mpr rfl) q)
theorem r_zai (h : rwOk (zaiR p off) = true) (hce : lk (caLaw b) (p + 3) = some (thrC b)) (hz : z1 ≤ 601024 ∧ z2 ≤ 7293034) (hC : C9w b v w gz k x X Y) (K : ∀ X1 Y1, J8 b X1 Y1 v → J9 X1 Y1 w → WPl ggL xs N Q 2055 (lvL n (some (.int k)) (some (.int x))) [] (LLw b) X1 Y1 (z1, z2)) : WPl ggL xs N Q p (lvL n (some (.int k)) v6) [.int x] (LLw b) X Y (z1, z2) := by
  obtain ⟨h8, h9, c1, c2⟩ := hC
  refine r_stor (p + 2) (lvL n (some (.int k)) (some (.int x))) (rw_at h 0 rfl) rfl rfl ?_
  refine r_load (p + 3) (v := .ref 79) (rw_at h 1 rfl) rfl rfl ?_
  refine r_thr (p + 6) (rw_at h 2 rfl) hce rfl hz h8 h9 (fun X1 Y1 a1 a2 a3 => ?_)
  rw [c1]
  refine r_load (p + 8) (v := .int k) (rw_at h 3 rfl) rfl rfl ?_
  refine l_icmp ggL_m (p + 13) (p + 8 + 3) (show cdAt (ggL (LLw b)).1 (p + 8) = _ from rw_at h 4 rfl) rfl (fun _ => ?_) (fun q => absurd rfl q)
  refine r_load (p + 15) (v := .int k) (rw_at h 5 rfl) rfl rfl ?_
  have G := r_goto (L := LLw b) (lv := lvL n (some (.int k)) (some (.int x))) (st := []) (z := (z1, z2)) 2055 (rw_at h 17 rfl) (K X1 Y1 a1 a2)
  refine l_if ggL_m (p + 37) (p + 18) (show cdAt (ggL (LLw b)).1 (p + 15) = _ from rw_at h 6 rfl) rfl (fun _ => G) (fun q => ?_)
  have k0 : k = nI 0 := Classical.not_not.mp q
  refine r_load (p + 19) (v := .ref 108) (rw_at h 7 rfl) rfl rfl ?_
  refine l_pure ggL_m (p + 20) [.int (nI 0), .ref 108] (show cdAt (ggL (LLw b)).1 (p + 19) = _ from rw_at h 8 rfl) rfl rfl ?_
  refine l_lald ggL_m (p + 21) (show cdAt (ggL (LLw b)).1 (p + 20) = _ from rw_at h 9 rfl) (LLw_o b) rfl v1_0 ?_
  rw [m_clamp (by omega), a3, c2 k0]
  have E : WPl ggL xs N Q (p + 31) (lvL n (some (.int k)) (some (.int x))) [.long (gz x), .long (gz x)] (LLw b) X1 Y1 (z1, z2) := by
    refine l_lcmp ggL_m (p + 32) (show cdAt (ggL (LLw b)).1 (p + 31) = _ from rw_at h 15 rfl) rfl ?_
    exact l_if ggL_m (p + 37) (p + 32 + 3) (show cdAt (ggL (LLw b)).1 (p + 32) = _ from rw_at h 16 rfl) rfl (fun _ => G) (fun q => absurd (m_cmp0.mpr rfl) q)
  refine r_load (p + 23) (v := .int x) (rw_at h 10 rfl) rfl rfl ?_
  refine l_if ggL_m (p + 30) (p + 26) (show cdAt (ggL (LLw b)).1 (p + 23) = _ from rw_at h 11 rfl) rfl (fun e => ?_) (fun e => ?_)
  · have e : x = 0 := e
    refine l_pure ggL_m (p + 31) [.long (lN 0), .long (gz x)] (show cdAt (ggL (LLw b)).1 (p + 30) = _ from rw_at h 14 rfl) rfl rfl ?_
    have e2 : gz x = lN 0 := if_pos e
    rw [e2] at E ⊢
    exact E
  · have e : ¬ x = 0 := e
    refine l_pure ggL_m (p + 27) [.long (lN 1), .long (gz x)] (show cdAt (ggL (LLw b)).1 (p + 26) = _ from rw_at h 12 rfl) rfl rfl ?_
    refine r_goto (p + 31) (rw_at h 13 rfl) ?_
    have e2 : gz x = lN 1 := if_neg e
    rw [e2] at E ⊢
    exact E
theorem r_vai (h : rwOk (vaiR p off) = true) (hce : lk (caLaw b) (p + 1) = some (thrC b)) (hz : z1 ≤ 601024 ∧ z2 ≤ 7293034) (hC : C9v b v w k X Y) (K : ∀ X1 Y1, J8 b X1 Y1 v → J9 X1 Y1 w → WPl ggL xs N Q 2055 (lvL n (some (.int k)) v6) [] (LLw b) X1 Y1 (z1, z2)) : WPl ggL xs N Q p (lvL n (some (.int k)) v6) [] (LLw b) X Y (z1, z2) := by
  obtain ⟨h8, h9, c1⟩ := hC
  refine r_load (p + 1) (v := .ref 79) (rw_at h 0 rfl) rfl rfl ?_
  refine r_thr (p + 4) (rw_at h 1 rfl) hce rfl hz h8 h9 (fun X1 Y1 a1 a2 a3 => ?_)
  rw [c1]
  refine r_load (p + 6) (v := .int k) (rw_at h 2 rfl) rfl rfl ?_
  refine l_icmp ggL_m (p + 11) (p + 6 + 3) (show cdAt (ggL (LLw b)).1 (p + 6) = _ from rw_at h 3 rfl) rfl (fun _ => ?_) (fun q => absurd rfl q)
  exact r_goto 2055 (rw_at h 4 rfl) (K X1 Y1 a1 a2)
end Tai
/-- what a turn owes: some turn's end -/
def TnH (xs : Nat → Int32) (N : Nat) (Q : Qt) (n z1 z2 : Nat) : Prop := ∀ (b' : Bool) (v5' v6' : Option Value) (X' : HX) (Y' : HY) (v' : Sv) (z1' z2' : Nat), lvI v5' → lvI v6' → J8 b' X' Y' v' → J9 X' Y' v' → z1' ≤ z1 + 6 → z2' ≤ z2 + 3800 → WPl ggL xs N Q 2055 (lvL n v5' v6') [] (LLw b') X' Y' (z1', z2')
theorem lvI_i {x : Int32} : lvI (some (.int x)) := Or.inr ⟨x, rfl⟩
theorem lvI_ok {v : Option Value} (h : lvI v) (m : Nat) : okA m v = true := by
  rcases h with rfl | ⟨x, rfl⟩ <;> rfl
