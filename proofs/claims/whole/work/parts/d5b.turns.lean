/-! turns of the law (printed by wip/whole/gen33.py) -/
section Trn
variable {xs : Nat → Int32} {N : Nat} {Q : Qt} {X : HX} {Y : HY} {n z1 z2 : Nat} {v5 v6 : Option Value} {b : Bool} {v : Sv}
theorem tn_11 (hn : 6 * n + 6 ≤ N) (hN : N ≤ 3072) (l5 : lvI v5) (l6 : lvI v6) (h8 : J8 b X Y v) (h9 : J9 X Y v) (hz : z1 ≤ 590000 ∧ z2 ≤ 7200000) (K : TnH xs N Q n z1 z2) : WPl ggL xs N Q 752 (lvL n v5 v6) [] (LLw b) X Y (z1, z2) := by
  obtain ⟨s, t, f, l, o⟩ := v
  have h : rwOk [(752, .aload_n 1, 1, [], 0), (753, .invokevirtual 146, 3, [], 0), (756, .aload_n 2, 1, [], 0), (757, .invokevirtual 149, 3, [], 0), (760, .if_icmp .eq 1295, 3, [2055], 0)] = true := by decide +kernel
  refine r_load 753 (v := .ref 0) (rw_at h 0 rfl) rfl rfl ?_
  refine r_call1 (b := b) 756 [.ref 0] (rw_at h 1 rfl) rfl rfl (by cases b <;> rfl) rfl (by cases b <;> rfl) rfl ⟨by omega, by omega⟩ (V8_moments h8 h9) (fun k X1 Y1 q => ?_)
  clear h8 h9
  obtain ⟨h8, h9, hw⟩ := q
  refine r_load 757 (v := .ref 79) (rw_at h 2 rfl) rfl rfl ?_
  refine r_call1 (b := b) 760 [.ref 0] (rw_at h 3 rfl) rfl rfl (by cases b <;> rfl) rfl rfl rfl ⟨by omega, by omega⟩ (V9_moments h8 h9 hw) (fun x X2 Y2 q => ?_)
  exact r_eq (rw_at h 4 rfl) q.2.2 (K b _ _ _ _ _ _ _ l5 l6 q.1 q.2.1 (by omega) (by omega))
theorem tn_12 (hn : 6 * n + 6 ≤ N) (hN : N ≤ 3072) (l5 : lvI v5) (l6 : lvI v6) (h8 : J8 b X Y v) (h9 : J9 X Y v) (hz : z1 ≤ 590000 ∧ z2 ≤ 7200000) (K : TnH xs N Q n z1 z2) : WPl ggL xs N Q 765 (lvL n v5 v6) [] (LLw b) X Y (z1, z2) := by
  obtain ⟨s, t, f, l, o⟩ := v
  have h : rwOk [(765, .aload_n 1, 1, [], 0), (772, .aload_n 3, 1, [], 0), (773, .invokestatic 150, 3, [], 0), (776, .istore 5, 2, [], 0), (778, .aload_n 2, 1, [], 0), (785, .invokevirtual 152, 3, [], 0)] = true := by decide +kernel
  refine r_load 766 (v := .ref 0) (rw_at h 0 rfl) rfl rfl ?_
  refine r_arg (p := 766) (j := 1) (c := 1) (by decide +kernel) (by omega) hN ?_
  refine r_load 773 (v := .ref 108) (rw_at h 1 rfl) rfl rfl ?_
  refine r_call1 (b := b) 776 [.ref 0, .int (xs (6 * n + 1)), .ref 79] (rw_at h 2 rfl) rfl rfl (by cases b <;> rfl) rfl (by cases b <;> rfl) rfl ⟨by omega, by omega⟩ (V8_moment h8 h9) (fun k X1 Y1 q => ?_)
  clear h8 h9
  obtain ⟨h8, h9, hw⟩ := q
  refine r_stor 778 (lvL n (some (.int k)) v6) (rw_at h 3 rfl) rfl rfl ?_
  refine r_load 779 (v := .ref 79) (rw_at h 4 rfl) rfl rfl ?_
  refine r_arg (p := 779) (j := 1) (c := 1) (by decide +kernel) (by omega) hN ?_
  refine r_call1 (b := b) 788 [.ref 0, .int (xs (6 * n + 1))] (rw_at h 5 rfl) rfl rfl (by cases b <;> rfl) rfl rfl rfl ⟨by omega, by omega⟩ (V9_moment h8 h9 hw) (fun x X2 Y2 q => ?_)
  exact r_tai (p := 788) (off := 1237) (by decide +kernel) rfl ⟨by omega, by omega⟩ q (fun X3 Y3 a8 a9 => K b _ _ X3 Y3 _ _ _ lvI_i lvI_i a8 a9 (by omega) (by omega))
theorem tn_13 (hn : 6 * n + 6 ≤ N) (hN : N ≤ 3072) (l5 : lvI v5) (l6 : lvI v6) (h8 : J8 b X Y v) (h9 : J9 X Y v) (hz : z1 ≤ 590000 ∧ z2 ≤ 7200000) (K : TnH xs N Q n z1 z2) : WPl ggL xs N Q 821 (lvL n v5 v6) [] (LLw b) X Y (z1, z2) := by
  obtain ⟨s, t, f, l, o⟩ := v
  have h : rwOk [(821, .aload_n 1, 1, [], 0), (828, .aload_n 3, 1, [], 0), (829, .invokestatic 153, 3, [], 0), (832, .istore 5, 2, [], 0), (834, .aload_n 2, 1, [], 0), (841, .invokevirtual 155, 3, [], 0)] = true := by decide +kernel
  refine r_load 822 (v := .ref 0) (rw_at h 0 rfl) rfl rfl ?_
  refine r_arg (p := 822) (j := 1) (c := 1) (by decide +kernel) (by omega) hN ?_
  refine r_load 829 (v := .ref 108) (rw_at h 1 rfl) rfl rfl ?_
  refine r_call1 (b := b) 832 [.ref 0, .int (xs (6 * n + 1)), .ref 79] (rw_at h 2 rfl) rfl rfl (by cases b <;> rfl) rfl (by cases b <;> rfl) rfl ⟨by omega, by omega⟩ (V8_lay h8 h9) (fun k X1 Y1 q => ?_)
  clear h8 h9
  obtain ⟨h8, h9, hw⟩ := q
  refine r_stor 834 (lvL n (some (.int k)) v6) (rw_at h 3 rfl) rfl rfl ?_
  refine r_load 835 (v := .ref 79) (rw_at h 4 rfl) rfl rfl ?_
  refine r_arg (p := 835) (j := 1) (c := 1) (by decide +kernel) (by omega) hN ?_
  refine r_call1 (b := b) 844 [.ref 0, .int (xs (6 * n + 1))] (rw_at h 5 rfl) rfl rfl (by cases b <;> rfl) rfl rfl rfl ⟨by omega, by omega⟩ (V9_lay h8 h9 hw) (fun x X2 Y2 q => ?_)
  exact r_tai (p := 844) (off := 1181) (by decide +kernel) rfl ⟨by omega, by omega⟩ q (fun X3 Y3 a8 a9 => K b _ _ X3 Y3 _ _ _ lvI_i lvI_i a8 a9 (by omega) (by omega))
theorem tn_14 (hn : 6 * n + 6 ≤ N) (hN : N ≤ 3072) (l5 : lvI v5) (l6 : lvI v6) (h8 : J8 b X Y v) (h9 : J9 X Y v) (hz : z1 ≤ 590000 ∧ z2 ≤ 7200000) (K : TnH xs N Q n z1 z2) : WPl ggL xs N Q 877 (lvL n v5 v6) [] (LLw b) X Y (z1, z2) := by
  obtain ⟨s, t, f, l, o⟩ := v
  have h : rwOk [(877, .aload_n 1, 1, [], 0), (898, .aload_n 3, 1, [], 0), (899, .invokestatic 156, 3, [], 0), (902, .istore 5, 2, [], 0), (904, .aload_n 2, 1, [], 0), (925, .invokevirtual 158, 3, [], 0)] = true := by decide +kernel
  refine r_load 878 (v := .ref 0) (rw_at h 0 rfl) rfl rfl ?_
  refine r_arg (p := 878) (j := 1) (c := 1) (by decide +kernel) (by omega) hN ?_
  refine r_arg (p := 884) (j := 2) (c := 2) (by decide +kernel) (by omega) hN ?_
  refine r_boo (p := 890) (by decide +kernel) ?_
  refine r_load 899 (v := .ref 108) (rw_at h 1 rfl) rfl rfl ?_
  refine r_call1 (b := b) 902 [.ref 0, .int (xs (6 * n + 1)), .int (bz (xs (6 * n + 2))), .ref 79] (rw_at h 2 rfl) rfl rfl (by cases b <;> rfl) rfl (by cases b <;> rfl) rfl ⟨by omega, by omega⟩ (V8_stays h8 h9) (fun k X1 Y1 q => ?_)
  clear h8 h9
  obtain ⟨h8, h9, hw⟩ := q
  refine r_stor 904 (lvL n (some (.int k)) v6) (rw_at h 3 rfl) rfl rfl ?_
  refine r_load 905 (v := .ref 79) (rw_at h 4 rfl) rfl rfl ?_
  refine r_arg (p := 905) (j := 1) (c := 1) (by decide +kernel) (by omega) hN ?_
  refine r_arg (p := 911) (j := 2) (c := 2) (by decide +kernel) (by omega) hN ?_
  refine r_boo (p := 917) (by decide +kernel) ?_
  refine r_call1 (b := b) 928 [.ref 0, .int (xs (6 * n + 1)), .int (bz (xs (6 * n + 2)))] (rw_at h 5 rfl) rfl rfl (by cases b <;> rfl) rfl rfl rfl ⟨by omega, by omega⟩ (V9_stays h8 h9 hw) (fun x X2 Y2 q => ?_)
  exact r_tai (p := 928) (off := 1097) (by decide +kernel) rfl ⟨by omega, by omega⟩ q (fun X3 Y3 a8 a9 => K b _ _ X3 Y3 _ _ _ lvI_i lvI_i a8 a9 (by omega) (by omega))
theorem tn_15 (hn : 6 * n + 6 ≤ N) (hN : N ≤ 3072) (l5 : lvI v5) (l6 : lvI v6) (h8 : J8 b X Y v) (h9 : J9 X Y v) (hz : z1 ≤ 590000 ∧ z2 ≤ 7200000) (K : TnH xs N Q n z1 z2) : WPl ggL xs N Q 961 (lvL n v5 v6) [] (LLw b) X Y (z1, z2) := by
  obtain ⟨s, t, f, l, o⟩ := v
  have h : rwOk [(961, .aload_n 1, 1, [], 0), (962, .invokevirtual 159, 3, [], 0), (965, .aload_n 2, 1, [], 0), (966, .invokevirtual 162, 3, [], 0), (969, .if_icmp .eq 1086, 3, [2055], 0)] = true := by decide +kernel
  refine r_load 962 (v := .ref 0) (rw_at h 0 rfl) rfl rfl ?_
  refine r_call1 (b := b) 965 [.ref 0] (rw_at h 1 rfl) rfl rfl (by cases b <;> rfl) rfl (by cases b <;> rfl) rfl ⟨by omega, by omega⟩ (V8_knot h8 h9) (fun k X1 Y1 q => ?_)
  clear h8 h9
  obtain ⟨h8, h9, hw⟩ := q
  refine r_load 966 (v := .ref 79) (rw_at h 2 rfl) rfl rfl ?_
  refine r_call1 (b := b) 969 [.ref 0] (rw_at h 3 rfl) rfl rfl (by cases b <;> rfl) rfl rfl rfl ⟨by omega, by omega⟩ (V9_knot h8 h9 hw) (fun x X2 Y2 q => ?_)
  exact r_eq (rw_at h 4 rfl) q.2.2 (K b _ _ _ _ _ _ _ l5 l6 q.1 q.2.1 (by omega) (by omega))
theorem tn_16 (hn : 6 * n + 6 ≤ N) (hN : N ≤ 3072) (l5 : lvI v5) (l6 : lvI v6) (h8 : J8 b X Y v) (h9 : J9 X Y v) (hz : z1 ≤ 590000 ∧ z2 ≤ 7200000) (K : TnH xs N Q n z1 z2) : WPl ggL xs N Q 974 (lvL n v5 v6) [] (LLw b) X Y (z1, z2) := by
  obtain ⟨s, t, f, l, o⟩ := v
  have h : rwOk [(974, .aload_n 1, 1, [], 0), (975, .invokevirtual 163, 3, [], 0), (978, .aload_n 2, 1, [], 0), (979, .invokevirtual 166, 3, [], 0), (982, .if_icmp .eq 1073, 3, [2055], 0)] = true := by decide +kernel
  refine r_load 975 (v := .ref 0) (rw_at h 0 rfl) rfl rfl ?_
  refine r_call1 (b := b) 978 [.ref 0] (rw_at h 1 rfl) rfl rfl (by cases b <;> rfl) rfl (by cases b <;> rfl) rfl ⟨by omega, by omega⟩ (V8_ring h8 h9) (fun k X1 Y1 q => ?_)
  clear h8 h9
  obtain ⟨h8, h9, hw⟩ := q
  refine r_load 979 (v := .ref 79) (rw_at h 2 rfl) rfl rfl ?_
  refine r_call1 (b := b) 982 [.ref 0] (rw_at h 3 rfl) rfl rfl (by cases b <;> rfl) rfl rfl rfl ⟨by omega, by omega⟩ (V9_ring h8 h9 hw) (fun x X2 Y2 q => ?_)
  exact r_eq (rw_at h 4 rfl) q.2.2 (K b _ _ _ _ _ _ _ l5 l6 q.1 q.2.1 (by omega) (by omega))
theorem tn_17 (hn : 6 * n + 6 ≤ N) (hN : N ≤ 3072) (l5 : lvI v5) (l6 : lvI v6) (h8 : J8 b X Y v) (h9 : J9 X Y v) (hz : z1 ≤ 590000 ∧ z2 ≤ 7200000) (K : TnH xs N Q n z1 z2) : WPl ggL xs N Q 987 (lvL n v5 v6) [] (LLw b) X Y (z1, z2) := by
  obtain ⟨s, t, f, l, o⟩ := v
  have h : rwOk [(987, .aload_n 1, 1, [], 0), (994, .invokevirtual 167, 3, [], 0), (997, .aload_n 2, 1, [], 0), (1004, .invokevirtual 170, 3, [], 0), (1007, .if_icmp .eq 1048, 3, [2055], 0)] = true := by decide +kernel
  refine r_load 988 (v := .ref 0) (rw_at h 0 rfl) rfl rfl ?_
  refine r_arg (p := 988) (j := 1) (c := 1) (by decide +kernel) (by omega) hN ?_
  refine r_call1 (b := b) 997 [.ref 0, .int (xs (6 * n + 1))] (rw_at h 1 rfl) rfl rfl (by cases b <;> rfl) rfl (by cases b <;> rfl) rfl ⟨by omega, by omega⟩ (V8_three h8 h9) (fun k X1 Y1 q => ?_)
  clear h8 h9
  obtain ⟨h8, h9, hw⟩ := q
  refine r_load 998 (v := .ref 79) (rw_at h 2 rfl) rfl rfl ?_
  refine r_arg (p := 998) (j := 1) (c := 1) (by decide +kernel) (by omega) hN ?_
  refine r_call1 (b := b) 1007 [.ref 0, .int (xs (6 * n + 1))] (rw_at h 3 rfl) rfl rfl (by cases b <;> rfl) rfl rfl rfl ⟨by omega, by omega⟩ (V9_three h8 h9 hw) (fun x X2 Y2 q => ?_)
  exact r_eq (rw_at h 4 rfl) q.2.2 (K b _ _ _ _ _ _ _ l5 l6 q.1 q.2.1 (by omega) (by omega))
theorem tn_18 (hn : 6 * n + 6 ≤ N) (hN : N ≤ 3072) (l5 : lvI v5) (l6 : lvI v6) (h8 : J8 b X Y v) (h9 : J9 X Y v) (hz : z1 ≤ 590000 ∧ z2 ≤ 7200000) (K : TnH xs N Q n z1 z2) : WPl ggL xs N Q 1012 (lvL n v5 v6) [] (LLw b) X Y (z1, z2) := by
  obtain ⟨s, t, f, l, o⟩ := v
  have h : rwOk [(1012, .aload_n 1, 1, [], 0), (1013, .invokevirtual 171, 3, [], 0), (1016, .aload_n 2, 1, [], 0), (1017, .invokevirtual 174, 3, [], 0), (1020, .if_icmp .eq 1035, 3, [2055], 0)] = true := by decide +kernel
  refine r_load 1013 (v := .ref 0) (rw_at h 0 rfl) rfl rfl ?_
  refine r_call1 (b := b) 1016 [.ref 0] (rw_at h 1 rfl) rfl rfl (by cases b <;> rfl) rfl (by cases b <;> rfl) rfl ⟨by omega, by omega⟩ (V8_small h8 h9) (fun k X1 Y1 q => ?_)
  clear h8 h9
  obtain ⟨h8, h9, hw⟩ := q
  refine r_load 1017 (v := .ref 79) (rw_at h 2 rfl) rfl rfl ?_
  refine r_call1 (b := b) 1020 [.ref 0] (rw_at h 3 rfl) rfl rfl (by cases b <;> rfl) rfl rfl rfl ⟨by omega, by omega⟩ (V9_small h8 h9 hw) (fun x X2 Y2 q => ?_)
  exact r_eq (rw_at h 4 rfl) q.2.2 (K b _ _ _ _ _ _ _ l5 l6 q.1 q.2.1 (by omega) (by omega))
theorem tn_19 (hn : 6 * n + 6 ≤ N) (hN : N ≤ 3072) (l5 : lvI v5) (l6 : lvI v6) (h8 : J8 b X Y v) (h9 : J9 X Y v) (hz : z1 ≤ 590000 ∧ z2 ≤ 7200000) (K : TnH xs N Q n z1 z2) : WPl ggL xs N Q 1025 (lvL n v5 v6) [] (LLw b) X Y (z1, z2) := by
  obtain ⟨s, t, f, l, o⟩ := v
  have h : rwOk [(1025, .aload_n 1, 1, [], 0), (1032, .invokevirtual 175, 3, [], 0), (1035, .aload_n 2, 1, [], 0), (1042, .invokevirtual 178, 3, [], 0), (1045, .if_icmp .eq 1010, 3, [2055], 0)] = true := by decide +kernel
  refine r_load 1026 (v := .ref 0) (rw_at h 0 rfl) rfl rfl ?_
  refine r_arg (p := 1026) (j := 1) (c := 1) (by decide +kernel) (by omega) hN ?_
  obtain ⟨u, hu, eu⟩ := nI_all (xs (6 * n + 1))
  rw [eu]
  refine r_call1 (b := b) 1035 [.ref 0, .int (nI u)] (rw_at h 1 rfl) rfl rfl (by cases b <;> rfl) rfl (by cases b <;> rfl) rfl ⟨by omega, by omega⟩ (V8_check h8 h9) (fun k X1 Y1 q => ?_)
  clear h8 h9
  obtain ⟨h8, h9, hw⟩ := q
  refine r_load 1036 (v := .ref 79) (rw_at h 2 rfl) rfl rfl ?_
  refine r_arg (p := 1036) (j := 1) (c := 1) (by decide +kernel) (by omega) hN ?_
  rw [eu]
  refine r_call1 (b := b) 1045 [.ref 0, .int (nI u)] (rw_at h 3 rfl) rfl rfl (by cases b <;> rfl) rfl rfl rfl ⟨by omega, by omega⟩ (V9_check h8 h9 hw) (fun x X2 Y2 q => ?_)
  exact r_eq (rw_at h 4 rfl) q.2.2 (K b _ _ _ _ _ _ _ l5 l6 q.1 q.2.1 (by omega) (by omega))
theorem tn_20 (hn : 6 * n + 6 ≤ N) (hN : N ≤ 3072) (l5 : lvI v5) (l6 : lvI v6) (h8 : J8 b X Y v) (h9 : J9 X Y v) (hz : z1 ≤ 590000 ∧ z2 ≤ 7200000) (K : TnH xs N Q n z1 z2) : WPl ggL xs N Q 1050 (lvL n v5 v6) [] (LLw b) X Y (z1, z2) := by
  obtain ⟨s, t, f, l, o⟩ := v
  have h : rwOk [(1050, .aload_n 1, 1, [], 0), (1051, .invokevirtual 179, 3, [], 0), (1054, .aload_n 2, 1, [], 0), (1055, .invokevirtual 183, 3, [], 0)] = true := by decide +kernel
  refine r_load 1051 (v := .ref 0) (rw_at h 0 rfl) rfl rfl ?_
  refine r_call2 (b := b) 1054 [.ref 0] (rw_at h 1 rfl) rfl rfl (by cases b <;> rfl) rfl (by cases b <;> rfl) rfl ⟨by omega, by omega⟩ (V8_count h8 h9) (fun k X1 Y1 q => ?_)
  clear h8 h9
  obtain ⟨h8, h9, hw⟩ := q
  refine r_load 1055 (v := .ref 79) (rw_at h 2 rfl) rfl rfl ?_
  refine r_call2 (b := b) 1058 [.ref 0] (rw_at h 3 rfl) rfl rfl (by cases b <;> rfl) rfl rfl rfl ⟨by omega, by omega⟩ (V9_count h8 h9 hw) (fun x X2 Y2 q => ?_)
  exact r_leq (off := 996) (by decide +kernel) q.2.2 (K b _ _ _ _ _ _ _ l5 l6 q.1 q.2.1 (by omega) (by omega))
theorem tn_21 (hn : 6 * n + 6 ≤ N) (hN : N ≤ 3072) (l5 : lvI v5) (l6 : lvI v6) (h8 : J8 b X Y v) (h9 : J9 X Y v) (hz : z1 ≤ 590000 ∧ z2 ≤ 7200000) (K : TnH xs N Q n z1 z2) : WPl ggL xs N Q 1064 (lvL n v5 v6) [] (LLw b) X Y (z1, z2) := by
  obtain ⟨s, t, f, l, o⟩ := v
  have h : rwOk [(1064, .aload_n 1, 1, [], 0), (1077, .aload_n 3, 1, [], 0), (1078, .invokestatic 184, 3, [], 0), (1081, .istore 5, 2, [], 0), (1083, .aload_n 2, 1, [], 0), (1096, .invokevirtual 186, 3, [], 0)] = true := by decide +kernel
  refine r_load 1065 (v := .ref 0) (rw_at h 0 rfl) rfl rfl ?_
  refine r_arg (p := 1065) (j := 1) (c := 1) (by decide +kernel) (by omega) hN ?_
  refine r_arg (p := 1071) (j := 2) (c := 2) (by decide +kernel) (by omega) hN ?_
  refine r_load 1078 (v := .ref 108) (rw_at h 1 rfl) rfl rfl ?_
  refine r_call1 (b := b) 1081 [.ref 0, .int (xs (6 * n + 1)), .int (xs (6 * n + 2)), .ref 79] (rw_at h 2 rfl) rfl rfl (by cases b <;> rfl) rfl (by cases b <;> rfl) rfl ⟨by omega, by omega⟩ (V8_node h8 h9) (fun k X1 Y1 q => ?_)
  clear h8 h9
  obtain ⟨h8, h9, hw⟩ := q
  refine r_stor 1083 (lvL n (some (.int k)) v6) (rw_at h 3 rfl) rfl rfl ?_
  refine r_load 1084 (v := .ref 79) (rw_at h 4 rfl) rfl rfl ?_
  refine r_arg (p := 1084) (j := 1) (c := 1) (by decide +kernel) (by omega) hN ?_
  refine r_arg (p := 1090) (j := 2) (c := 2) (by decide +kernel) (by omega) hN ?_
  refine r_call1 (b := b) 1099 [.ref 0, .int (xs (6 * n + 1)), .int (xs (6 * n + 2))] (rw_at h 5 rfl) rfl rfl (by cases b <;> rfl) rfl rfl rfl ⟨by omega, by omega⟩ (V9_node h8 h9 hw) (fun x X2 Y2 q => ?_)
  exact r_tai (p := 1099) (off := 926) (by decide +kernel) rfl ⟨by omega, by omega⟩ q (fun X3 Y3 a8 a9 => K b _ _ X3 Y3 _ _ _ lvI_i lvI_i a8 a9 (by omega) (by omega))
end Trn
