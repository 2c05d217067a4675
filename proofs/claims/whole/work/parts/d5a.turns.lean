/-! turns of the law (printed by wip/whole/gen33.py) -/
section Trn
variable {xs : Nat → Int32} {N : Nat} {Q : Qt} {X : HX} {Y : HY} {n z1 z2 : Nat} {v5 v6 : Option Value} {b : Bool} {v : Sv}
theorem tn_0 (hn : 6 * n + 6 ≤ N) (hN : N ≤ 3072) (l5 : lvI v5) (l6 : lvI v6) (h8 : J8 b X Y v) (h9 : J9 X Y v) (hz : z1 ≤ 590000 ∧ z2 ≤ 7200000) (K : TnH xs N Q n z1 z2) : WPl ggL xs N Q 232 (lvL n v5 v6) [] (LLw b) X Y (z1, z2) := by
  obtain ⟨s, t, f, l, o⟩ := v
  have h : rwOk [(232, .aload_n 1, 1, [], 0), (263, .invokevirtual 97, 3, [], 0), (266, .aload_n 2, 1, [], 0), (297, .invokevirtual 101, 3, [], 0), (300, .if_icmp .eq 1755, 3, [2055], 0)] = true := by decide +kernel
  refine r_load 233 (v := .ref 0) (rw_at h 0 rfl) rfl rfl ?_
  refine r_arg (p := 233) (j := 1) (c := 1) (by decide +kernel) (by omega) hN ?_
  refine r_arg (p := 239) (j := 2) (c := 2) (by decide +kernel) (by omega) hN ?_
  refine r_arg (p := 245) (j := 3) (c := 3) (by decide +kernel) (by omega) hN ?_
  refine r_arg (p := 251) (j := 4) (c := 4) (by decide +kernel) (by omega) hN ?_
  refine r_arg (p := 257) (j := 5) (c := 5) (by decide +kernel) (by omega) hN ?_
  refine r_call1 (b := b) 266 [.ref 0, .int (xs (6 * n + 1)), .int (xs (6 * n + 2)), .int (xs (6 * n + 3)), .int (xs (6 * n + 4)), .int (xs (6 * n + 5))] (rw_at h 1 rfl) rfl rfl (by cases b <;> rfl) rfl (by cases b <;> rfl) rfl ⟨by omega, by omega⟩ (V8_feed h8 h9) (fun k X1 Y1 q => ?_)
  clear h8 h9
  obtain ⟨h8, h9, hw⟩ := q
  refine r_load 267 (v := .ref 79) (rw_at h 2 rfl) rfl rfl ?_
  refine r_arg (p := 267) (j := 1) (c := 1) (by decide +kernel) (by omega) hN ?_
  refine r_arg (p := 273) (j := 2) (c := 2) (by decide +kernel) (by omega) hN ?_
  refine r_arg (p := 279) (j := 3) (c := 3) (by decide +kernel) (by omega) hN ?_
  refine r_arg (p := 285) (j := 4) (c := 4) (by decide +kernel) (by omega) hN ?_
  refine r_arg (p := 291) (j := 5) (c := 5) (by decide +kernel) (by omega) hN ?_
  refine r_call1 (b := b) 300 [.ref 0, .int (xs (6 * n + 1)), .int (xs (6 * n + 2)), .int (xs (6 * n + 3)), .int (xs (6 * n + 4)), .int (xs (6 * n + 5))] (rw_at h 3 rfl) rfl rfl (by cases b <;> rfl) rfl rfl rfl ⟨by omega, by omega⟩ (V9_feed h8 h9 hw) (fun x X2 Y2 q => ?_)
  exact r_eq (rw_at h 4 rfl) q.2.2 (K b _ _ _ _ _ _ _ l5 l6 q.1 q.2.1 (by omega) (by omega))
theorem tn_1 (hn : 6 * n + 6 ≤ N) (hN : N ≤ 3072) (l5 : lvI v5) (l6 : lvI v6) (h8 : J8 b X Y v) (h9 : J9 X Y v) (hz : z1 ≤ 590000 ∧ z2 ≤ 7200000) (K : TnH xs N Q n z1 z2) : WPl ggL xs N Q 305 (lvL n v5 v6) [] (LLw b) X Y (z1, z2) := by
  obtain ⟨s, t, f, l, o⟩ := v
  have h : rwOk [(305, .aload_n 1, 1, [], 0), (312, .invokevirtual 102, 3, [], 0), (315, .aload_n 2, 1, [], 0), (322, .invokevirtual 105, 3, [], 0), (325, .if_icmp .eq 1730, 3, [2055], 0)] = true := by decide +kernel
  refine r_load 306 (v := .ref 0) (rw_at h 0 rfl) rfl rfl ?_
  refine r_arg (p := 306) (j := 1) (c := 1) (by decide +kernel) (by omega) hN ?_
  refine r_call1 (b := b) 315 [.ref 0, .int (xs (6 * n + 1))] (rw_at h 1 rfl) rfl rfl (by cases b <;> rfl) rfl (by cases b <;> rfl) rfl ⟨by omega, by omega⟩ (V8_end h8 h9) (fun k X1 Y1 q => ?_)
  clear h8 h9
  obtain ⟨h8, h9, hw⟩ := q
  refine r_load 316 (v := .ref 79) (rw_at h 2 rfl) rfl rfl ?_
  refine r_arg (p := 316) (j := 1) (c := 1) (by decide +kernel) (by omega) hN ?_
  refine r_call1 (b := b) 325 [.ref 0, .int (xs (6 * n + 1))] (rw_at h 3 rfl) rfl rfl (by cases b <;> rfl) rfl rfl rfl ⟨by omega, by omega⟩ (V9_end h8 h9 hw) (fun x X2 Y2 q => ?_)
  exact r_eq (rw_at h 4 rfl) q.2.2 (K b _ _ _ _ _ _ _ l5 l6 q.1 q.2.1 (by omega) (by omega))
theorem tn_2 (hn : 6 * n + 6 ≤ N) (hN : N ≤ 3072) (l5 : lvI v5) (l6 : lvI v6) (h8 : J8 b X Y v) (h9 : J9 X Y v) (hz : z1 ≤ 590000 ∧ z2 ≤ 7200000) (K : TnH xs N Q n z1 z2) : WPl ggL xs N Q 330 (lvL n v5 v6) [] (LLw b) X Y (z1, z2) := by
  obtain ⟨s, t, f, l, o⟩ := v
  have h : rwOk [(330, .aload_n 1, 1, [], 0), (331, .aload_n 3, 1, [], 0), (332, .invokestatic 106, 3, [], 0), (335, .istore 5, 2, [], 0), (337, .aload_n 2, 1, [], 0), (338, .invokevirtual 111, 3, [], 0)] = true := by decide +kernel
  refine r_load 331 (v := .ref 0) (rw_at h 0 rfl) rfl rfl ?_
  refine r_load 332 (v := .ref 108) (rw_at h 1 rfl) rfl rfl ?_
  refine r_call1 (b := b) 335 [.ref 0, .ref 79] (rw_at h 2 rfl) rfl rfl (by cases b <;> rfl) rfl (by cases b <;> rfl) rfl ⟨by omega, by omega⟩ (V8_guest h8 h9) (fun k X1 Y1 q => ?_)
  clear h8 h9
  obtain ⟨h8, h9, hw⟩ := q
  refine r_stor 337 (lvL n (some (.int k)) v6) (rw_at h 3 rfl) rfl rfl ?_
  refine r_load 338 (v := .ref 79) (rw_at h 4 rfl) rfl rfl ?_
  refine r_call1 (b := b) 341 [.ref 0] (rw_at h 5 rfl) rfl rfl (by cases b <;> rfl) rfl rfl rfl ⟨by omega, by omega⟩ (V9_guest h8 h9 hw) (fun x X2 Y2 q => ?_)
  exact r_tai (p := 341) (off := 1684) (by decide +kernel) rfl ⟨by omega, by omega⟩ q (fun X3 Y3 a8 a9 => K b _ _ X3 Y3 _ _ _ lvI_i lvI_i a8 a9 (by omega) (by omega))
theorem tn_3 (hn : 6 * n + 6 ≤ N) (hN : N ≤ 3072) (l5 : lvI v5) (l6 : lvI v6) (h8 : J8 b X Y v) (h9 : J9 X Y v) (hz : z1 ≤ 590000 ∧ z2 ≤ 7200000) (K : TnH xs N Q n z1 z2) : WPl ggL xs N Q 374 (lvL n v5 v6) [] (LLw b) X Y (z1, z2) := by
  obtain ⟨s, t, f, l, o⟩ := v
  have h : rwOk [(374, .aload_n 1, 1, [], 0), (375, .aload_n 3, 1, [], 0), (376, .invokestatic 115, 3, [], 0), (379, .istore 5, 2, [], 0), (381, .aload_n 2, 1, [], 0), (382, .invokevirtual 117, 3, [], 0)] = true := by decide +kernel
  refine r_load 375 (v := .ref 0) (rw_at h 0 rfl) rfl rfl ?_
  refine r_load 376 (v := .ref 108) (rw_at h 1 rfl) rfl rfl ?_
  refine r_call1 (b := b) 379 [.ref 0, .ref 79] (rw_at h 2 rfl) rfl rfl (by cases b <;> rfl) rfl (by cases b <;> rfl) rfl ⟨by omega, by omega⟩ (V8_memory h8 h9) (fun k X1 Y1 q => ?_)
  clear h8 h9
  obtain ⟨h8, h9, hw⟩ := q
  refine r_stor 381 (lvL n (some (.int k)) v6) (rw_at h 3 rfl) rfl rfl ?_
  refine r_load 382 (v := .ref 79) (rw_at h 4 rfl) rfl rfl ?_
  refine r_call1 (b := b) 385 [.ref 0] (rw_at h 5 rfl) rfl rfl (by cases b <;> rfl) rfl rfl rfl ⟨by omega, by omega⟩ (V9_memory h8 h9 hw) (fun x X2 Y2 q => ?_)
  exact r_tai (p := 385) (off := 1640) (by decide +kernel) rfl ⟨by omega, by omega⟩ q (fun X3 Y3 a8 a9 => K b _ _ X3 Y3 _ _ _ lvI_i lvI_i a8 a9 (by omega) (by omega))
theorem tn_4 (hn : 6 * n + 6 ≤ N) (hN : N ≤ 3072) (l5 : lvI v5) (l6 : lvI v6) (h8 : J8 b X Y v) (h9 : J9 X Y v) (hz : z1 ≤ 590000 ∧ z2 ≤ 7200000) (K : TnH xs N Q n z1 z2) : WPl ggL xs N Q 418 (lvL n v5 v6) [] (LLw b) X Y (z1, z2) := by
  obtain ⟨s, t, f, l, o⟩ := v
  have h : rwOk [(418, .aload_n 1, 1, [], 0), (419, .invokevirtual 118, 3, [], 0), (422, .aload_n 2, 1, [], 0), (423, .invokevirtual 121, 3, [], 0), (426, .if_icmp .eq 1629, 3, [2055], 0)] = true := by decide +kernel
  refine r_load 419 (v := .ref 0) (rw_at h 0 rfl) rfl rfl ?_
  refine r_call1 (b := b) 422 [.ref 0] (rw_at h 1 rfl) rfl rfl (by cases b <;> rfl) rfl (by cases b <;> rfl) rfl ⟨by omega, by omega⟩ (V8_fault h8 h9) (fun k X1 Y1 q => ?_)
  clear h8 h9
  obtain ⟨h8, h9, hw⟩ := q
  refine r_load 423 (v := .ref 79) (rw_at h 2 rfl) rfl rfl ?_
  refine r_call1 (b := b) 426 [.ref 0] (rw_at h 3 rfl) rfl rfl (by cases b <;> rfl) rfl rfl rfl ⟨by omega, by omega⟩ (V9_fault h8 h9 hw) (fun x X2 Y2 q => ?_)
  exact r_eq (rw_at h 4 rfl) q.2.2 (K b _ _ _ _ _ _ _ l5 l6 q.1 q.2.1 (by omega) (by omega))
theorem tn_5 (hn : 6 * n + 6 ≤ N) (hN : N ≤ 3072) (l5 : lvI v5) (l6 : lvI v6) (h8 : J8 b X Y v) (h9 : J9 X Y v) (hz : z1 ≤ 590000 ∧ z2 ≤ 7200000) (K : TnH xs N Q n z1 z2) : WPl ggL xs N Q 431 (lvL n v5 v6) [] (LLw b) X Y (z1, z2) := by
  obtain ⟨s, t, f, l, o⟩ := v
  have h : rwOk [(431, .aload_n 1, 1, [], 0), (444, .aload_n 3, 1, [], 0), (445, .invokestatic 122, 3, [], 0), (448, .istore 5, 2, [], 0), (450, .aload_n 2, 1, [], 0), (463, .invokevirtual 125, 3, [], 0)] = true := by decide +kernel
  refine r_load 432 (v := .ref 0) (rw_at h 0 rfl) rfl rfl ?_
  refine r_arg (p := 432) (j := 1) (c := 1) (by decide +kernel) (by omega) hN ?_
  refine r_arg (p := 438) (j := 2) (c := 2) (by decide +kernel) (by omega) hN ?_
  refine r_load 445 (v := .ref 108) (rw_at h 1 rfl) rfl rfl ?_
  refine r_call1 (b := b) 448 [.ref 0, .int (xs (6 * n + 1)), .int (xs (6 * n + 2)), .ref 79] (rw_at h 2 rfl) rfl rfl (by cases b <;> rfl) rfl (by cases b <;> rfl) rfl ⟨by omega, by omega⟩ (V8_about h8 h9) (fun k X1 Y1 q => ?_)
  clear h8 h9
  obtain ⟨h8, h9, hw⟩ := q
  refine r_stor 450 (lvL n (some (.int k)) v6) (rw_at h 3 rfl) rfl rfl ?_
  refine r_load 451 (v := .ref 79) (rw_at h 4 rfl) rfl rfl ?_
  refine r_arg (p := 451) (j := 1) (c := 1) (by decide +kernel) (by omega) hN ?_
  refine r_arg (p := 457) (j := 2) (c := 2) (by decide +kernel) (by omega) hN ?_
  refine r_call1 (b := b) 466 [.ref 0, .int (xs (6 * n + 1)), .int (xs (6 * n + 2))] (rw_at h 5 rfl) rfl rfl (by cases b <;> rfl) rfl rfl rfl ⟨by omega, by omega⟩ (V9_about h8 h9 hw) (fun x X2 Y2 q => ?_)
  exact r_tai (p := 466) (off := 1559) (by decide +kernel) rfl ⟨by omega, by omega⟩ q (fun X3 Y3 a8 a9 => K b _ _ X3 Y3 _ _ _ lvI_i lvI_i a8 a9 (by omega) (by omega))
theorem tn_6 (hn : 6 * n + 6 ≤ N) (hN : N ≤ 3072) (l5 : lvI v5) (l6 : lvI v6) (h8 : J8 b X Y v) (h9 : J9 X Y v) (hz : z1 ≤ 590000 ∧ z2 ≤ 7200000) (K : TnH xs N Q n z1 z2) : WPl ggL xs N Q 499 (lvL n v5 v6) [] (LLw b) X Y (z1, z2) := by
  obtain ⟨s, t, f, l, o⟩ := v
  have h : rwOk [(499, .aload_n 1, 1, [], 0), (520, .aload_n 3, 1, [], 0), (521, .invokestatic 126, 3, [], 0), (524, .istore 5, 2, [], 0), (526, .aload_n 2, 1, [], 0), (547, .invokevirtual 129, 3, [], 0)] = true := by decide +kernel
  refine r_load 500 (v := .ref 0) (rw_at h 0 rfl) rfl rfl ?_
  refine r_arg (p := 500) (j := 1) (c := 1) (by decide +kernel) (by omega) hN ?_
  refine r_arg (p := 506) (j := 2) (c := 2) (by decide +kernel) (by omega) hN ?_
  refine r_boo (p := 512) (by decide +kernel) ?_
  refine r_load 521 (v := .ref 108) (rw_at h 1 rfl) rfl rfl ?_
  refine r_call1 (b := b) 524 [.ref 0, .int (xs (6 * n + 1)), .int (bz (xs (6 * n + 2))), .ref 79] (rw_at h 2 rfl) rfl rfl (by cases b <;> rfl) rfl (by cases b <;> rfl) rfl ⟨by omega, by omega⟩ (V8_strike (bz01 _) h8 h9) (fun k X1 Y1 q => ?_)
  clear h8 h9
  obtain ⟨h8, h9, hw⟩ := q
  refine r_stor 526 (lvL n (some (.int k)) v6) (rw_at h 3 rfl) rfl rfl ?_
  refine r_load 527 (v := .ref 79) (rw_at h 4 rfl) rfl rfl ?_
  refine r_arg (p := 527) (j := 1) (c := 1) (by decide +kernel) (by omega) hN ?_
  refine r_arg (p := 533) (j := 2) (c := 2) (by decide +kernel) (by omega) hN ?_
  refine r_boo (p := 539) (by decide +kernel) ?_
  refine r_call1 (b := b) 550 [.ref 0, .int (xs (6 * n + 1)), .int (bz (xs (6 * n + 2)))] (rw_at h 5 rfl) rfl rfl (by cases b <;> rfl) rfl rfl rfl ⟨by omega, by omega⟩ (V9_strike (bz01 _) h8 h9 hw) (fun x X2 Y2 q => ?_)
  exact r_zai (p := 550) (off := 1468) (by decide +kernel) rfl ⟨by omega, by omega⟩ q (fun X3 Y3 a8 a9 => K b _ _ X3 Y3 _ _ _ lvI_i lvI_i a8 a9 (by omega) (by omega))
theorem tn_7 (hn : 6 * n + 6 ≤ N) (hN : N ≤ 3072) (l5 : lvI v5) (l6 : lvI v6) (h8 : J8 b X Y v) (h9 : J9 X Y v) (hz : z1 ≤ 590000 ∧ z2 ≤ 7200000) (K : TnH xs N Q n z1 z2) : WPl ggL xs N Q 590 (lvL n v5 v6) [] (LLw b) X Y (z1, z2) := by
  obtain ⟨s, t, f, l, o⟩ := v
  have h : rwOk [(590, .aload_n 1, 1, [], 0), (603, .aload_n 3, 1, [], 0), (604, .invokestatic 130, 3, [], 0), (607, .istore 5, 2, [], 0), (609, .aload_n 2, 1, [], 0), (622, .invokevirtual 132, 3, [], 0)] = true := by decide +kernel
  refine r_load 591 (v := .ref 0) (rw_at h 0 rfl) rfl rfl ?_
  refine r_arg (p := 591) (j := 1) (c := 1) (by decide +kernel) (by omega) hN ?_
  refine r_arg (p := 597) (j := 2) (c := 2) (by decide +kernel) (by omega) hN ?_
  refine r_load 604 (v := .ref 108) (rw_at h 1 rfl) rfl rfl ?_
  refine r_call1 (b := b) 607 [.ref 0, .int (xs (6 * n + 1)), .int (xs (6 * n + 2)), .ref 79] (rw_at h 2 rfl) rfl rfl (by cases b <;> rfl) rfl (by cases b <;> rfl) rfl ⟨by omega, by omega⟩ (V8_pair h8 h9) (fun k X1 Y1 q => ?_)
  clear h8 h9
  obtain ⟨h8, h9, hw⟩ := q
  refine r_stor 609 (lvL n (some (.int k)) v6) (rw_at h 3 rfl) rfl rfl ?_
  refine r_load 610 (v := .ref 79) (rw_at h 4 rfl) rfl rfl ?_
  refine r_arg (p := 610) (j := 1) (c := 1) (by decide +kernel) (by omega) hN ?_
  refine r_arg (p := 616) (j := 2) (c := 2) (by decide +kernel) (by omega) hN ?_
  refine r_call1 (b := b) 625 [.ref 0, .int (xs (6 * n + 1)), .int (xs (6 * n + 2))] (rw_at h 5 rfl) rfl rfl (by cases b <;> rfl) rfl rfl rfl ⟨by omega, by omega⟩ (V9_pair h8 h9 hw) (fun x X2 Y2 q => ?_)
  exact r_tai (p := 625) (off := 1400) (by decide +kernel) rfl ⟨by omega, by omega⟩ q (fun X3 Y3 a8 a9 => K b _ _ X3 Y3 _ _ _ lvI_i lvI_i a8 a9 (by omega) (by omega))
theorem tn_8 (hn : 6 * n + 6 ≤ N) (hN : N ≤ 3072) (l5 : lvI v5) (l6 : lvI v6) (h8 : J8 b X Y v) (h9 : J9 X Y v) (hz : z1 ≤ 590000 ∧ z2 ≤ 7200000) (K : TnH xs N Q n z1 z2) : WPl ggL xs N Q 658 (lvL n v5 v6) [] (LLw b) X Y (z1, z2) := by
  obtain ⟨s, t, f, l, o⟩ := v
  have h : rwOk [(658, .aload_n 1, 1, [], 0), (665, .invokevirtual 133, 3, [], 0), (668, .aload_n 2, 1, [], 0), (675, .invokevirtual 136, 3, [], 0), (678, .if_icmp .eq 1377, 3, [2055], 0)] = true := by decide +kernel
  refine r_load 659 (v := .ref 0) (rw_at h 0 rfl) rfl rfl ?_
  refine r_arg (p := 659) (j := 1) (c := 1) (by decide +kernel) (by omega) hN ?_
  refine r_call1 (b := b) 668 [.ref 0, .int (xs (6 * n + 1))] (rw_at h 1 rfl) rfl rfl (by cases b <;> rfl) rfl (by cases b <;> rfl) rfl ⟨by omega, by omega⟩ (V8_quarrel h8 h9) (fun k X1 Y1 q => ?_)
  clear h8 h9
  obtain ⟨h8, h9, hw⟩ := q
  refine r_load 669 (v := .ref 79) (rw_at h 2 rfl) rfl rfl ?_
  refine r_arg (p := 669) (j := 1) (c := 1) (by decide +kernel) (by omega) hN ?_
  refine r_call1 (b := b) 678 [.ref 0, .int (xs (6 * n + 1))] (rw_at h 3 rfl) rfl rfl (by cases b <;> rfl) rfl rfl rfl ⟨by omega, by omega⟩ (V9_quarrel h8 h9 hw) (fun x X2 Y2 q => ?_)
  exact r_eq (rw_at h 4 rfl) q.2.2 (K b _ _ _ _ _ _ _ l5 l6 q.1 q.2.1 (by omega) (by omega))
theorem tn_9 (hn : 6 * n + 6 ≤ N) (hN : N ≤ 3072) (l5 : lvI v5) (l6 : lvI v6) (h8 : J8 b X Y v) (h9 : J9 X Y v) (hz : z1 ≤ 590000 ∧ z2 ≤ 7200000) (K : TnH xs N Q n z1 z2) : WPl ggL xs N Q 683 (lvL n v5 v6) [] (LLw b) X Y (z1, z2) := by
  obtain ⟨s, t, f, l, o⟩ := v
  have h : rwOk [(683, .aload_n 1, 1, [], 0), (690, .aload_n 3, 1, [], 0), (691, .invokestatic 137, 3, [], 0), (694, .istore 5, 2, [], 0), (696, .aload_n 2, 1, [], 0), (703, .invokevirtual 140, 3, [], 0)] = true := by decide +kernel
  refine r_load 684 (v := .ref 0) (rw_at h 0 rfl) rfl rfl ?_
  refine r_arg (p := 684) (j := 1) (c := 1) (by decide +kernel) (by omega) hN ?_
  refine r_load 691 (v := .ref 108) (rw_at h 1 rfl) rfl rfl ?_
  refine r_call1 (b := b) 694 [.ref 0, .int (xs (6 * n + 1)), .ref 79] (rw_at h 2 rfl) rfl rfl (by cases b <;> rfl) rfl (by cases b <;> rfl) rfl ⟨by omega, by omega⟩ (V8_quarrels h8 h9) (fun k X1 Y1 q => ?_)
  clear h8 h9
  obtain ⟨h8, h9, hw⟩ := q
  refine r_stor 696 (lvL n (some (.int k)) v6) (rw_at h 3 rfl) rfl rfl ?_
  refine r_load 697 (v := .ref 79) (rw_at h 4 rfl) rfl rfl ?_
  refine r_arg (p := 697) (j := 1) (c := 1) (by decide +kernel) (by omega) hN ?_
  refine r_call1 (b := b) 706 [.ref 0, .int (xs (6 * n + 1))] (rw_at h 5 rfl) rfl rfl (by cases b <;> rfl) rfl rfl rfl ⟨by omega, by omega⟩ (V9_quarrels h8 h9 hw) (fun x X2 Y2 q => ?_)
  exact r_tai (p := 706) (off := 1319) (by decide +kernel) rfl ⟨by omega, by omega⟩ q (fun X3 Y3 a8 a9 => K b _ _ X3 Y3 _ _ _ lvI_i lvI_i a8 a9 (by omega) (by omega))
theorem tn_10 (hn : 6 * n + 6 ≤ N) (hN : N ≤ 3072) (l5 : lvI v5) (l6 : lvI v6) (h8 : J8 b X Y v) (h9 : J9 X Y v) (hz : z1 ≤ 590000 ∧ z2 ≤ 7200000) (K : TnH xs N Q n z1 z2) : WPl ggL xs N Q 739 (lvL n v5 v6) [] (LLw b) X Y (z1, z2) := by
  obtain ⟨s, t, f, l, o⟩ := v
  have h : rwOk [(739, .aload_n 1, 1, [], 0), (740, .invokevirtual 141, 3, [], 0), (743, .aload_n 2, 1, [], 0), (744, .invokevirtual 145, 3, [], 0), (747, .if_icmp .eq 1308, 3, [2055], 0)] = true := by decide +kernel
  refine r_load 740 (v := .ref 0) (rw_at h 0 rfl) rfl rfl ?_
  refine r_call1 (b := b) 743 [.ref 0] (rw_at h 1 rfl) rfl rfl (by cases b <;> rfl) rfl (by cases b <;> rfl) rfl ⟨by omega, by omega⟩ (V8_can h8 h9) (fun k X1 Y1 q => ?_)
  clear h8 h9
  obtain ⟨h8, h9, hw⟩ := q
  refine r_load 744 (v := .ref 79) (rw_at h 2 rfl) rfl rfl ?_
  refine r_call1 (b := b) 747 [.ref 0] (rw_at h 3 rfl) rfl rfl (by cases b <;> rfl) rfl rfl rfl ⟨by omega, by omega⟩ (V9_can h8 h9 hw) (fun x X2 Y2 q => ?_)
  exact r_eq (rw_at h 4 rfl) q.2.2 (K b _ _ _ _ _ _ _ l5 l6 q.1 q.2.1 (by omega) (by omega))
end Trn
