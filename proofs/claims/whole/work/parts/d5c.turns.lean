/-! turns of the law (printed by wip/whole/gen33.py) -/
section Trn
variable {xs : Nat → Int32} {N : Nat} {Q : Qt} {X : HX} {Y : HY} {n z1 z2 : Nat} {v5 v6 : Option Value} {b : Bool} {v : Sv}
theorem tn_22 (hn : 6 * n + 6 ≤ N) (hN : N ≤ 3072) (l5 : lvI v5) (l6 : lvI v6) (h8 : J8 b X Y v) (h9 : J9 X Y v) (hz : z1 ≤ 590000 ∧ z2 ≤ 7200000) (K : TnH xs N Q n z1 z2) : WPl ggL xs N Q 1132 (lvL n v5 v6) [] (LLw b) X Y (z1, z2) := by
  obtain ⟨s, t, f, l, o⟩ := v
  have h : rwOk [(1132, .aload_n 1, 1, [], 0), (1151, .aload_n 3, 1, [], 0), (1152, .invokestatic 187, 3, [], 0), (1155, .istore 5, 2, [], 0), (1157, .aload_n 2, 1, [], 0), (1176, .invokevirtual 190, 3, [], 0)] = true := by decide +kernel
  refine r_load 1133 (v := .ref 0) (rw_at h 0 rfl) rfl rfl ?_
  refine r_arg (p := 1133) (j := 1) (c := 1) (by decide +kernel) (by omega) hN ?_
  refine r_arg (p := 1139) (j := 2) (c := 2) (by decide +kernel) (by omega) hN ?_
  refine r_arg (p := 1145) (j := 3) (c := 3) (by decide +kernel) (by omega) hN ?_
  refine r_load 1152 (v := .ref 108) (rw_at h 1 rfl) rfl rfl ?_
  refine r_call1 (b := b) 1155 [.ref 0, .int (xs (6 * n + 1)), .int (xs (6 * n + 2)), .int (xs (6 * n + 3)), .ref 79] (rw_at h 2 rfl) rfl rfl (by cases b <;> rfl) rfl (by cases b <;> rfl) rfl ⟨by omega, by omega⟩ (V8_between h8 h9) (fun k X1 Y1 q => ?_)
  clear h8 h9
  obtain ⟨h8, h9, hw⟩ := q
  refine r_stor 1157 (lvL n (some (.int k)) v6) (rw_at h 3 rfl) rfl rfl ?_
  refine r_load 1158 (v := .ref 79) (rw_at h 4 rfl) rfl rfl ?_
  refine r_arg (p := 1158) (j := 1) (c := 1) (by decide +kernel) (by omega) hN ?_
  refine r_arg (p := 1164) (j := 2) (c := 2) (by decide +kernel) (by omega) hN ?_
  refine r_arg (p := 1170) (j := 3) (c := 3) (by decide +kernel) (by omega) hN ?_
  refine r_call1 (b := b) 1179 [.ref 0, .int (xs (6 * n + 1)), .int (xs (6 * n + 2)), .int (xs (6 * n + 3))] (rw_at h 5 rfl) rfl rfl (by cases b <;> rfl) rfl rfl rfl ⟨by omega, by omega⟩ (V9_between h8 h9 hw) (fun x X2 Y2 q => ?_)
  exact r_zai (p := 1179) (off := 839) (by decide +kernel) rfl ⟨by omega, by omega⟩ q (fun X3 Y3 a8 a9 => K b _ _ X3 Y3 _ _ _ lvI_i lvI_i a8 a9 (by omega) (by omega))
theorem tn_23 (hn : 6 * n + 6 ≤ N) (hN : N ≤ 3072) (l5 : lvI v5) (l6 : lvI v6) (h8 : J8 b X Y v) (h9 : J9 X Y v) (hz : z1 ≤ 590000 ∧ z2 ≤ 7200000) (K : TnH xs N Q n z1 z2) : WPl ggL xs N Q 1219 (lvL n v5 v6) [] (LLw b) X Y (z1, z2) := by
  obtain ⟨s, t, f, l, o⟩ := v
  have h : rwOk [(1219, .aload_n 1, 1, [], 0), (1220, .invokevirtual 191, 3, [], 0), (1223, .aload_n 2, 1, [], 0), (1224, .invokevirtual 194, 3, [], 0), (1227, .if_icmp .eq 828, 3, [2055], 0)] = true := by decide +kernel
  refine r_load 1220 (v := .ref 0) (rw_at h 0 rfl) rfl rfl ?_
  refine r_call1 (b := b) 1223 [.ref 0] (rw_at h 1 rfl) rfl rfl (by cases b <;> rfl) rfl (by cases b <;> rfl) rfl ⟨by omega, by omega⟩ (V8_opens h8 h9) (fun k X1 Y1 q => ?_)
  clear h8 h9
  obtain ⟨h8, h9, hw⟩ := q
  refine r_load 1224 (v := .ref 79) (rw_at h 2 rfl) rfl rfl ?_
  refine r_call1 (b := b) 1227 [.ref 0] (rw_at h 3 rfl) rfl rfl (by cases b <;> rfl) rfl rfl rfl ⟨by omega, by omega⟩ (V9_opens h8 h9 hw) (fun x X2 Y2 q => ?_)
  exact r_eq (rw_at h 4 rfl) q.2.2 (K b _ _ _ _ _ _ _ l5 l6 q.1 q.2.1 (by omega) (by omega))
theorem tn_24 (hn : 6 * n + 6 ≤ N) (hN : N ≤ 3072) (l5 : lvI v5) (l6 : lvI v6) (h8 : J8 b X Y v) (h9 : J9 X Y v) (hz : z1 ≤ 590000 ∧ z2 ≤ 7200000) (K : TnH xs N Q n z1 z2) : WPl ggL xs N Q 1232 (lvL n v5 v6) [] (LLw b) X Y (z1, z2) := by
  obtain ⟨s, t, f, l, o⟩ := v
  have h : rwOk [(1232, .aload_n 1, 1, [], 0), (1247, .invokevirtual 195, 3, [], 0), (1250, .aload_n 2, 1, [], 0), (1265, .invokevirtual 199, 3, [], 0), (1268, .if_icmp .eq 787, 3, [2055], 0)] = true := by decide +kernel
  refine r_load 1233 (v := .ref 0) (rw_at h 0 rfl) rfl rfl ?_
  refine r_arg (p := 1233) (j := 1) (c := 1) (by decide +kernel) (by omega) hN ?_
  refine r_boo (p := 1239) (by decide +kernel) ?_
  refine r_call1 (b := b) 1250 [.ref 0, .int (bz (xs (6 * n + 1)))] (rw_at h 1 rfl) rfl rfl (by cases b <;> rfl) rfl (by cases b <;> rfl) rfl ⟨by omega, by omega⟩ (V8_choose h8 h9) (fun k X1 Y1 q => ?_)
  clear h8 h9
  obtain ⟨h8, h9, hw⟩ := q
  refine r_load 1251 (v := .ref 79) (rw_at h 2 rfl) rfl rfl ?_
  refine r_arg (p := 1251) (j := 1) (c := 1) (by decide +kernel) (by omega) hN ?_
  refine r_boo (p := 1257) (by decide +kernel) ?_
  refine r_call1 (b := b) 1268 [.ref 0, .int (bz (xs (6 * n + 1)))] (rw_at h 3 rfl) rfl rfl (by cases b <;> rfl) rfl rfl rfl ⟨by omega, by omega⟩ (V9_choose h8 h9 hw) (fun x X2 Y2 q => ?_)
  exact r_eq (rw_at h 4 rfl) q.2.2 (K b _ _ _ _ _ _ _ l5 l6 q.1 q.2.1 (by omega) (by omega))
theorem tn_25 (hn : 6 * n + 6 ≤ N) (hN : N ≤ 3072) (l5 : lvI v5) (l6 : lvI v6) (h8 : J8 b X Y v) (h9 : J9 X Y v) (hz : z1 ≤ 590000 ∧ z2 ≤ 7200000) (K : TnH xs N Q n z1 z2) : WPl ggL xs N Q 1273 (lvL n v5 v6) [] (LLw b) X Y (z1, z2) := by
  obtain ⟨s, t, f, l, o⟩ := v
  have h : rwOk [(1273, .aload_n 1, 1, [], 0), (1274, .invokevirtual 200, 3, [], 0), (1277, .aload_n 2, 1, [], 0), (1278, .invokevirtual 203, 3, [], 0), (1281, .if_icmp .eq 774, 3, [2055], 0)] = true := by decide +kernel
  refine r_load 1274 (v := .ref 0) (rw_at h 0 rfl) rfl rfl ?_
  refine r_call1 (b := b) 1277 [.ref 0] (rw_at h 1 rfl) rfl rfl (by cases b <;> rfl) rfl (by cases b <;> rfl) rfl ⟨by omega, by omega⟩ (V8_ask h8 h9) (fun k X1 Y1 q => ?_)
  clear h8 h9
  obtain ⟨h8, h9, hw⟩ := q
  refine r_load 1278 (v := .ref 79) (rw_at h 2 rfl) rfl rfl ?_
  refine r_call1 (b := b) 1281 [.ref 0] (rw_at h 3 rfl) rfl rfl (by cases b <;> rfl) rfl rfl rfl ⟨by omega, by omega⟩ (V9_ask h8 h9 hw) (fun x X2 Y2 q => ?_)
  exact r_eq (rw_at h 4 rfl) q.2.2 (K b _ _ _ _ _ _ _ l5 l6 q.1 q.2.1 (by omega) (by omega))
theorem tn_26 (hn : 6 * n + 6 ≤ N) (hN : N ≤ 3072) (l5 : lvI v5) (l6 : lvI v6) (h8 : J8 b X Y v) (h9 : J9 X Y v) (hz : z1 ≤ 590000 ∧ z2 ≤ 7200000) (K : TnH xs N Q n z1 z2) : WPl ggL xs N Q 1286 (lvL n v5 v6) [] (LLw b) X Y (z1, z2) := by
  obtain ⟨s, t, f, l, o⟩ := v
  have h : rwOk [(1286, .aload_n 1, 1, [], 0), (1305, .invokestatic 204, 3, [], 0), (1308, .istore 5, 2, [], 0), (1310, .aload_n 2, 1, [], 0), (1329, .invokevirtual 207, 3, [], 0)] = true := by decide +kernel
  refine r_load 1287 (v := .ref 0) (rw_at h 0 rfl) rfl rfl ?_
  refine r_arg (p := 1287) (j := 1) (c := 1) (by decide +kernel) (by omega) hN ?_
  refine r_arg (p := 1293) (j := 2) (c := 2) (by decide +kernel) (by omega) hN ?_
  refine r_arg (p := 1299) (j := 3) (c := 3) (by decide +kernel) (by omega) hN ?_
  refine r_call1 (b := b) 1308 [.ref 0, .int (xs (6 * n + 1)), .int (xs (6 * n + 2)), .int (xs (6 * n + 3))] (rw_at h 1 rfl) rfl rfl (by cases b <;> rfl) rfl (by cases b <;> rfl) rfl ⟨by omega, by omega⟩ (V8_stay h8 h9) (fun k X1 Y1 q => ?_)
  clear h8 h9
  obtain ⟨h8, h9, hw⟩ := q
  refine r_stor 1310 (lvL n (some (.int k)) v6) (rw_at h 2 rfl) rfl rfl ?_
  refine r_load 1311 (v := .ref 79) (rw_at h 3 rfl) rfl rfl ?_
  refine r_arg (p := 1311) (j := 1) (c := 1) (by decide +kernel) (by omega) hN ?_
  refine r_arg (p := 1317) (j := 2) (c := 2) (by decide +kernel) (by omega) hN ?_
  refine r_arg (p := 1323) (j := 3) (c := 3) (by decide +kernel) (by omega) hN ?_
  refine r_call0 (b := b) 1332 [.ref 0, .int (xs (6 * n + 1)), .int (xs (6 * n + 2)), .int (xs (6 * n + 3))] (rw_at h 4 rfl) rfl rfl (by cases b <;> rfl) rfl rfl rfl ⟨by omega, by omega⟩ (V9_stay h8 h9 hw) (fun X2 Y2 q => ?_)
  exact r_vai (p := 1332) (off := 712) (by decide +kernel) rfl ⟨by omega, by omega⟩ q (fun X3 Y3 a8 a9 => K b _ _ X3 Y3 _ _ _ lvI_i l6 a8 a9 (by omega) (by omega))
theorem tn_27 (hn : 6 * n + 6 ≤ N) (hN : N ≤ 3072) (l5 : lvI v5) (l6 : lvI v6) (h8 : J8 b X Y v) (h9 : J9 X Y v) (hz : z1 ≤ 590000 ∧ z2 ≤ 7200000) (K : TnH xs N Q n z1 z2) : WPl ggL xs N Q 1346 (lvL n v5 v6) [] (LLw b) X Y (z1, z2) := by
  obtain ⟨s, t, f, l, o⟩ := v
  have h : rwOk [(1346, .aload_n 1, 1, [], 0), (1353, .aload_n 3, 1, [], 0), (1354, .invokestatic 208, 3, [], 0), (1357, .istore 5, 2, [], 0), (1359, .aload_n 2, 1, [], 0), (1366, .invokevirtual 210, 3, [], 0)] = true := by decide +kernel
  refine r_load 1347 (v := .ref 0) (rw_at h 0 rfl) rfl rfl ?_
  refine r_arg (p := 1347) (j := 1) (c := 1) (by decide +kernel) (by omega) hN ?_
  refine r_load 1354 (v := .ref 108) (rw_at h 1 rfl) rfl rfl ?_
  refine r_call1 (b := b) 1357 [.ref 0, .int (xs (6 * n + 1)), .ref 79] (rw_at h 2 rfl) rfl rfl (by cases b <;> rfl) rfl (by cases b <;> rfl) rfl ⟨by omega, by omega⟩ (V8_judge h8 h9) (fun k X1 Y1 q => ?_)
  clear h8 h9
  obtain ⟨h8, h9, hw⟩ := q
  refine r_stor 1359 (lvL n (some (.int k)) v6) (rw_at h 3 rfl) rfl rfl ?_
  refine r_load 1360 (v := .ref 79) (rw_at h 4 rfl) rfl rfl ?_
  refine r_arg (p := 1360) (j := 1) (c := 1) (by decide +kernel) (by omega) hN ?_
  refine r_call1 (b := b) 1369 [.ref 0, .int (xs (6 * n + 1))] (rw_at h 5 rfl) rfl rfl (by cases b <;> rfl) rfl rfl rfl ⟨by omega, by omega⟩ (V9_judge h8 h9 hw) (fun x X2 Y2 q => ?_)
  exact r_tai (p := 1369) (off := 656) (by decide +kernel) rfl ⟨by omega, by omega⟩ q (fun X3 Y3 a8 a9 => K b _ _ X3 Y3 _ _ _ lvI_i lvI_i a8 a9 (by omega) (by omega))
theorem tn_28 (hn : 6 * n + 6 ≤ N) (hN : N ≤ 3072) (l5 : lvI v5) (l6 : lvI v6) (h8 : J8 b X Y v) (h9 : J9 X Y v) (hz : z1 ≤ 590000 ∧ z2 ≤ 7200000) (K : TnH xs N Q n z1 z2) : WPl ggL xs N Q 1402 (lvL n v5 v6) [] (LLw b) X Y (z1, z2) := by
  obtain ⟨s, t, f, l, o⟩ := v
  have h : rwOk [(1402, .aload_n 1, 1, [], 0), (1409, .aload_n 3, 1, [], 0), (1410, .invokestatic 211, 3, [], 0), (1413, .istore 5, 2, [], 0), (1415, .aload_n 2, 1, [], 0), (1422, .invokevirtual 213, 3, [], 0)] = true := by decide +kernel
  refine r_load 1403 (v := .ref 0) (rw_at h 0 rfl) rfl rfl ?_
  refine r_arg (p := 1403) (j := 1) (c := 1) (by decide +kernel) (by omega) hN ?_
  refine r_load 1410 (v := .ref 108) (rw_at h 1 rfl) rfl rfl ?_
  refine r_call1 (b := b) 1413 [.ref 0, .int (xs (6 * n + 1)), .ref 79] (rw_at h 2 rfl) rfl rfl (by cases b <;> rfl) rfl (by cases b <;> rfl) rfl ⟨by omega, by omega⟩ (V8_lies h8 h9) (fun k X1 Y1 q => ?_)
  clear h8 h9
  obtain ⟨h8, h9, hw⟩ := q
  refine r_stor 1415 (lvL n (some (.int k)) v6) (rw_at h 3 rfl) rfl rfl ?_
  refine r_load 1416 (v := .ref 79) (rw_at h 4 rfl) rfl rfl ?_
  refine r_arg (p := 1416) (j := 1) (c := 1) (by decide +kernel) (by omega) hN ?_
  refine r_call1 (b := b) 1425 [.ref 0, .int (xs (6 * n + 1))] (rw_at h 5 rfl) rfl rfl (by cases b <;> rfl) rfl rfl rfl ⟨by omega, by omega⟩ (V9_lies h8 h9 hw) (fun x X2 Y2 q => ?_)
  exact r_tai (p := 1425) (off := 600) (by decide +kernel) rfl ⟨by omega, by omega⟩ q (fun X3 Y3 a8 a9 => K b _ _ X3 Y3 _ _ _ lvI_i lvI_i a8 a9 (by omega) (by omega))
theorem tn_29 (hn : 6 * n + 6 ≤ N) (hN : N ≤ 3072) (l5 : lvI v5) (l6 : lvI v6) (h8 : J8 b X Y v) (h9 : J9 X Y v) (hz : z1 ≤ 590000 ∧ z2 ≤ 7200000) (K : TnH xs N Q n z1 z2) : WPl ggL xs N Q 1458 (lvL n v5 v6) [] (LLw b) X Y (z1, z2) := by
  obtain ⟨s, t, f, l, o⟩ := v
  have h : rwOk [(1458, .aload_n 1, 1, [], 0), (1465, .aload_n 3, 1, [], 0), (1466, .invokestatic 214, 3, [], 0), (1469, .istore 5, 2, [], 0), (1471, .aload_n 2, 1, [], 0), (1478, .invokevirtual 216, 3, [], 0)] = true := by decide +kernel
  refine r_load 1459 (v := .ref 0) (rw_at h 0 rfl) rfl rfl ?_
  refine r_arg (p := 1459) (j := 1) (c := 1) (by decide +kernel) (by omega) hN ?_
  refine r_load 1466 (v := .ref 108) (rw_at h 1 rfl) rfl rfl ?_
  refine r_call1 (b := b) 1469 [.ref 0, .int (xs (6 * n + 1)), .ref 79] (rw_at h 2 rfl) rfl rfl (by cases b <;> rfl) rfl (by cases b <;> rfl) rfl ⟨by omega, by omega⟩ (V8_leave h8 h9) (fun k X1 Y1 q => ?_)
  clear h8 h9
  obtain ⟨h8, h9, hw⟩ := q
  refine r_stor 1471 (lvL n (some (.int k)) v6) (rw_at h 3 rfl) rfl rfl ?_
  refine r_load 1472 (v := .ref 79) (rw_at h 4 rfl) rfl rfl ?_
  refine r_arg (p := 1472) (j := 1) (c := 1) (by decide +kernel) (by omega) hN ?_
  refine r_call1 (b := b) 1481 [.ref 0, .int (xs (6 * n + 1))] (rw_at h 5 rfl) rfl rfl (by cases b <;> rfl) rfl rfl rfl ⟨by omega, by omega⟩ (V9_leave h8 h9 hw) (fun x X2 Y2 q => ?_)
  exact r_tai (p := 1481) (off := 544) (by decide +kernel) rfl ⟨by omega, by omega⟩ q (fun X3 Y3 a8 a9 => K b _ _ X3 Y3 _ _ _ lvI_i lvI_i a8 a9 (by omega) (by omega))
theorem tn_30 (hn : 6 * n + 6 ≤ N) (hN : N ≤ 3072) (l5 : lvI v5) (l6 : lvI v6) (h8 : J8 b X Y v) (h9 : J9 X Y v) (hz : z1 ≤ 590000 ∧ z2 ≤ 7200000) (K : TnH xs N Q n z1 z2) : WPl ggL xs N Q 1514 (lvL n v5 v6) [] (LLw b) X Y (z1, z2) := by
  obtain ⟨s, t, f, l, o⟩ := v
  have h : rwOk [(1514, .aload_n 1, 1, [], 0), (1515, .invokevirtual 217, 3, [], 0), (1518, .aload_n 2, 1, [], 0), (1519, .invokevirtual 220, 3, [], 0), (1522, .if_icmp .eq 533, 3, [2055], 0)] = true := by decide +kernel
  refine r_load 1515 (v := .ref 0) (rw_at h 0 rfl) rfl rfl ?_
  refine r_call1 (b := b) 1518 [.ref 0] (rw_at h 1 rfl) rfl rfl (by cases b <;> rfl) rfl (by cases b <;> rfl) rfl ⟨by omega, by omega⟩ (V8_kind h8 h9) (fun k X1 Y1 q => ?_)
  clear h8 h9
  obtain ⟨h8, h9, hw⟩ := q
  refine r_load 1519 (v := .ref 79) (rw_at h 2 rfl) rfl rfl ?_
  refine r_call1 (b := b) 1522 [.ref 0] (rw_at h 3 rfl) rfl rfl (by cases b <;> rfl) rfl rfl rfl ⟨by omega, by omega⟩ (V9_kind h8 h9 hw) (fun x X2 Y2 q => ?_)
  exact r_eq (rw_at h 4 rfl) q.2.2 (K b _ _ _ _ _ _ _ l5 l6 q.1 q.2.1 (by omega) (by omega))
theorem tn_31 (hn : 6 * n + 6 ≤ N) (hN : N ≤ 3072) (l5 : lvI v5) (l6 : lvI v6) (h8 : J8 b X Y v) (h9 : J9 X Y v) (hz : z1 ≤ 590000 ∧ z2 ≤ 7200000) (K : TnH xs N Q n z1 z2) : WPl ggL xs N Q 1527 (lvL n v5 v6) [] (LLw b) X Y (z1, z2) := by
  obtain ⟨s, t, f, l, o⟩ := v
  have h : rwOk [(1527, .aload_n 1, 1, [], 0), (1534, .invokevirtual 221, 3, [], 0), (1537, .aload_n 2, 1, [], 0), (1544, .invokevirtual 224, 3, [], 0), (1547, .if_icmp .eq 508, 3, [2055], 0)] = true := by decide +kernel
  refine r_load 1528 (v := .ref 0) (rw_at h 0 rfl) rfl rfl ?_
  refine r_arg (p := 1528) (j := 1) (c := 1) (by decide +kernel) (by omega) hN ?_
  refine r_call1 (b := b) 1537 [.ref 0, .int (xs (6 * n + 1))] (rw_at h 1 rfl) rfl rfl (by cases b <;> rfl) rfl (by cases b <;> rfl) rfl ⟨by omega, by omega⟩ (V8_claw h8 h9) (fun k X1 Y1 q => ?_)
  clear h8 h9
  obtain ⟨h8, h9, hw⟩ := q
  refine r_load 1538 (v := .ref 79) (rw_at h 2 rfl) rfl rfl ?_
  refine r_arg (p := 1538) (j := 1) (c := 1) (by decide +kernel) (by omega) hN ?_
  refine r_call1 (b := b) 1547 [.ref 0, .int (xs (6 * n + 1))] (rw_at h 3 rfl) rfl rfl (by cases b <;> rfl) rfl rfl rfl ⟨by omega, by omega⟩ (V9_claw h8 h9 hw) (fun x X2 Y2 q => ?_)
  exact r_eq (rw_at h 4 rfl) q.2.2 (K b _ _ _ _ _ _ _ l5 l6 q.1 q.2.1 (by omega) (by omega))
theorem tn_32 (hn : 6 * n + 6 ≤ N) (hN : N ≤ 3072) (l5 : lvI v5) (l6 : lvI v6) (h8 : J8 b X Y v) (h9 : J9 X Y v) (hz : z1 ≤ 590000 ∧ z2 ≤ 7200000) (K : TnH xs N Q n z1 z2) : WPl ggL xs N Q 1552 (lvL n v5 v6) [] (LLw b) X Y (z1, z2) := by
  obtain ⟨s, t, f, l, o⟩ := v
  have h : rwOk [(1552, .aload_n 1, 1, [], 0), (1553, .invokevirtual 225, 3, [], 0), (1556, .aload_n 2, 1, [], 0), (1557, .invokevirtual 228, 3, [], 0), (1560, .if_icmp .eq 495, 3, [2055], 0)] = true := by decide +kernel
  refine r_load 1553 (v := .ref 0) (rw_at h 0 rfl) rfl rfl ?_
  refine r_call1 (b := b) 1556 [.ref 0] (rw_at h 1 rfl) rfl rfl (by cases b <;> rfl) rfl (by cases b <;> rfl) rfl ⟨by omega, by omega⟩ (V8_round h8 h9) (fun k X1 Y1 q => ?_)
  clear h8 h9
  obtain ⟨h8, h9, hw⟩ := q
  refine r_load 1557 (v := .ref 79) (rw_at h 2 rfl) rfl rfl ?_
  refine r_call1 (b := b) 1560 [.ref 0] (rw_at h 3 rfl) rfl rfl (by cases b <;> rfl) rfl rfl rfl ⟨by omega, by omega⟩ (V9_round h8 h9 hw) (fun x X2 Y2 q => ?_)
  exact r_eq (rw_at h 4 rfl) q.2.2 (K b _ _ _ _ _ _ _ l5 l6 q.1 q.2.1 (by omega) (by omega))
end Trn
