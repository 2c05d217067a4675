/-! turns of the law (printed by wip/whole/gen33.py) -/
section Trn
variable {xs : Nat → Int32} {N : Nat} {Q : Qt} {X : HX} {Y : HY} {n z1 z2 : Nat} {v5 v6 : Option Value} {b : Bool} {v : Sv}
theorem tn_33 (hn : 6 * n + 6 ≤ N) (hN : N ≤ 3072) (l5 : lvI v5) (l6 : lvI v6) (h8 : J8 b X Y v) (h9 : J9 X Y v) (hz : z1 ≤ 590000 ∧ z2 ≤ 7200000) (K : TnH xs N Q n z1 z2) : WPl ggL xs N Q 1565 (lvL n v5 v6) [] (LLw b) X Y (z1, z2) := by
  obtain ⟨s, t, f, l, o⟩ := v
  have h : rwOk [(1565, .aload_n 1, 1, [], 0), (1572, .aload_n 3, 1, [], 0), (1573, .invokestatic 229, 3, [], 0), (1576, .istore 5, 2, [], 0), (1578, .aload_n 2, 1, [], 0), (1585, .invokevirtual 231, 3, [], 0)] = true := by decide +kernel
  refine r_load 1566 (v := .ref 0) (rw_at h 0 rfl) rfl rfl ?_
  refine r_arg (p := 1566) (j := 1) (c := 1) (by decide +kernel) (by omega) hN ?_
  refine r_load 1573 (v := .ref 108) (rw_at h 1 rfl) rfl rfl ?_
  refine r_call1 (b := b) 1576 [.ref 0, .int (xs (6 * n + 1)), .ref 79] (rw_at h 2 rfl) rfl rfl (by cases b <;> rfl) rfl (by cases b <;> rfl) rfl ⟨by omega, by omega⟩ (V8_twice h8 h9) (fun k X1 Y1 q => ?_)
  clear h8 h9
  obtain ⟨h8, h9, hw⟩ := q
  refine r_stor 1578 (lvL n (some (.int k)) v6) (rw_at h 3 rfl) rfl rfl ?_
  refine r_load 1579 (v := .ref 79) (rw_at h 4 rfl) rfl rfl ?_
  refine r_arg (p := 1579) (j := 1) (c := 1) (by decide +kernel) (by omega) hN ?_
  refine r_call1 (b := b) 1588 [.ref 0, .int (xs (6 * n + 1))] (rw_at h 5 rfl) rfl rfl (by cases b <;> rfl) rfl rfl rfl ⟨by omega, by omega⟩ (V9_twice h8 h9 hw) (fun x X2 Y2 q => ?_)
  exact r_zai (p := 1588) (off := 430) (by decide +kernel) rfl ⟨by omega, by omega⟩ q (fun X3 Y3 a8 a9 => K b _ _ X3 Y3 _ _ _ lvI_i lvI_i a8 a9 (by omega) (by omega))
theorem tn_34 (hn : 6 * n + 6 ≤ N) (hN : N ≤ 3072) (l5 : lvI v5) (l6 : lvI v6) (h8 : J8 b X Y v) (h9 : J9 X Y v) (hz : z1 ≤ 590000 ∧ z2 ≤ 7200000) (K : TnH xs N Q n z1 z2) : WPl ggL xs N Q 1628 (lvL n v5 v6) [] (LLw b) X Y (z1, z2) := by
  obtain ⟨s, t, f, l, o⟩ := v
  have h : rwOk [(1628, .aload_n 1, 1, [], 0), (1635, .aload_n 3, 1, [], 0), (1636, .invokestatic 232, 3, [], 0), (1639, .istore 5, 2, [], 0), (1641, .aload_n 2, 1, [], 0), (1648, .invokevirtual 234, 3, [], 0)] = true := by decide +kernel
  refine r_load 1629 (v := .ref 0) (rw_at h 0 rfl) rfl rfl ?_
  refine r_arg (p := 1629) (j := 1) (c := 1) (by decide +kernel) (by omega) hN ?_
  refine r_load 1636 (v := .ref 108) (rw_at h 1 rfl) rfl rfl ?_
  refine r_call1 (b := b) 1639 [.ref 0, .int (xs (6 * n + 1)), .ref 79] (rw_at h 2 rfl) rfl rfl (by cases b <;> rfl) rfl (by cases b <;> rfl) rfl ⟨by omega, by omega⟩ (V8_room h8 h9) (fun k X1 Y1 q => ?_)
  clear h8 h9
  obtain ⟨h8, h9, hw⟩ := q
  refine r_stor 1641 (lvL n (some (.int k)) v6) (rw_at h 3 rfl) rfl rfl ?_
  refine r_load 1642 (v := .ref 79) (rw_at h 4 rfl) rfl rfl ?_
  refine r_arg (p := 1642) (j := 1) (c := 1) (by decide +kernel) (by omega) hN ?_
  refine r_call1 (b := b) 1651 [.ref 0, .int (xs (6 * n + 1))] (rw_at h 5 rfl) rfl rfl (by cases b <;> rfl) rfl rfl rfl ⟨by omega, by omega⟩ (V9_room h8 h9 hw) (fun x X2 Y2 q => ?_)
  exact r_tai (p := 1651) (off := 374) (by decide +kernel) rfl ⟨by omega, by omega⟩ q (fun X3 Y3 a8 a9 => K b _ _ X3 Y3 _ _ _ lvI_i lvI_i a8 a9 (by omega) (by omega))
theorem tn_35 (hn : 6 * n + 6 ≤ N) (hN : N ≤ 3072) (l5 : lvI v5) (l6 : lvI v6) (h8 : J8 b X Y v) (h9 : J9 X Y v) (hz : z1 ≤ 590000 ∧ z2 ≤ 7200000) (K : TnH xs N Q n z1 z2) : WPl ggL xs N Q 1684 (lvL n v5 v6) [] (LLw b) X Y (z1, z2) := by
  obtain ⟨s, t, f, l, o⟩ := v
  have h : rwOk [(1684, .aload_n 1, 1, [], 0), (1685, .aload_n 3, 1, [], 0), (1686, .invokestatic 235, 3, [], 0), (1689, .istore 5, 2, [], 0), (1691, .aload_n 2, 1, [], 0), (1692, .invokevirtual 237, 3, [], 0)] = true := by decide +kernel
  refine r_load 1685 (v := .ref 0) (rw_at h 0 rfl) rfl rfl ?_
  refine r_load 1686 (v := .ref 108) (rw_at h 1 rfl) rfl rfl ?_
  refine r_call1 (b := b) 1689 [.ref 0, .ref 79] (rw_at h 2 rfl) rfl rfl (by cases b <;> rfl) rfl (by cases b <;> rfl) rfl ⟨by omega, by omega⟩ (V8_rooms h8 h9) (fun k X1 Y1 q => ?_)
  clear h8 h9
  obtain ⟨h8, h9, hw⟩ := q
  refine r_stor 1691 (lvL n (some (.int k)) v6) (rw_at h 3 rfl) rfl rfl ?_
  refine r_load 1692 (v := .ref 79) (rw_at h 4 rfl) rfl rfl ?_
  refine r_call1 (b := b) 1695 [.ref 0] (rw_at h 5 rfl) rfl rfl (by cases b <;> rfl) rfl rfl rfl ⟨by omega, by omega⟩ (V9_rooms h8 h9 hw) (fun x X2 Y2 q => ?_)
  exact r_tai (p := 1695) (off := 330) (by decide +kernel) rfl ⟨by omega, by omega⟩ q (fun X3 Y3 a8 a9 => K b _ _ X3 Y3 _ _ _ lvI_i lvI_i a8 a9 (by omega) (by omega))
theorem tn_36 (hn : 6 * n + 6 ≤ N) (hN : N ≤ 3072) (l5 : lvI v5) (l6 : lvI v6) (h8 : J8 b X Y v) (h9 : J9 X Y v) (hz : z1 ≤ 590000 ∧ z2 ≤ 7200000) (K : TnH xs N Q n z1 z2) : WPl ggL xs N Q 1728 (lvL n v5 v6) [] (LLw b) X Y (z1, z2) := by
  obtain ⟨s, t, f, l, o⟩ := v
  have h : rwOk [(1728, .aload_n 1, 1, [], 0), (1729, .invokevirtual 238, 3, [], 0), (1732, .aload_n 2, 1, [], 0), (1733, .invokevirtual 241, 3, [], 0)] = true := by decide +kernel
  refine r_load 1729 (v := .ref 0) (rw_at h 0 rfl) rfl rfl ?_
  refine r_call2 (b := b) 1732 [.ref 0] (rw_at h 1 rfl) rfl rfl (by cases b <;> rfl) rfl (by cases b <;> rfl) rfl ⟨by omega, by omega⟩ (V8_obey h8 h9) (fun k X1 Y1 q => ?_)
  clear h8 h9
  obtain ⟨h8, h9, hw⟩ := q
  refine r_load 1733 (v := .ref 79) (rw_at h 2 rfl) rfl rfl ?_
  refine r_call2 (b := b) 1736 [.ref 0] (rw_at h 3 rfl) rfl rfl (by cases b <;> rfl) rfl rfl rfl ⟨by omega, by omega⟩ (V9_obey h8 h9 hw) (fun x X2 Y2 q => ?_)
  exact r_leq (off := 318) (by decide +kernel) q.2.2 (K b _ _ _ _ _ _ _ l5 l6 q.1 q.2.1 (by omega) (by omega))
theorem tn_37 (hn : 6 * n + 6 ≤ N) (hN : N ≤ 3072) (l5 : lvI v5) (l6 : lvI v6) (h8 : J8 b X Y v) (h9 : J9 X Y v) (hz : z1 ≤ 590000 ∧ z2 ≤ 7200000) (K : TnH xs N Q n z1 z2) : WPl ggL xs N Q 1742 (lvL n v5 v6) [] (LLw b) X Y (z1, z2) := by
  obtain ⟨s, t, f, l, o⟩ := v
  have h : rwOk [(1742, .aload_n 1, 1, [], 0), (1763, .aload_n 3, 1, [], 0), (1764, .invokestatic 242, 3, [], 0), (1767, .istore 5, 2, [], 0), (1769, .aload_n 2, 1, [], 0), (1790, .invokevirtual 244, 3, [], 0)] = true := by decide +kernel
  refine r_load 1743 (v := .ref 0) (rw_at h 0 rfl) rfl rfl ?_
  refine r_arg (p := 1743) (j := 1) (c := 1) (by decide +kernel) (by omega) hN ?_
  refine r_arg (p := 1749) (j := 2) (c := 2) (by decide +kernel) (by omega) hN ?_
  refine r_boo (p := 1755) (by decide +kernel) ?_
  refine r_load 1764 (v := .ref 108) (rw_at h 1 rfl) rfl rfl ?_
  refine r_call1 (b := b) 1767 [.ref 0, .int (xs (6 * n + 1)), .int (bz (xs (6 * n + 2))), .ref 79] (rw_at h 2 rfl) rfl rfl (by cases b <;> rfl) rfl (by cases b <;> rfl) rfl ⟨by omega, by omega⟩ (V8_span h8 h9) (fun k X1 Y1 q => ?_)
  clear h8 h9
  obtain ⟨h8, h9, hw⟩ := q
  refine r_stor 1769 (lvL n (some (.int k)) v6) (rw_at h 3 rfl) rfl rfl ?_
  refine r_load 1770 (v := .ref 79) (rw_at h 4 rfl) rfl rfl ?_
  refine r_arg (p := 1770) (j := 1) (c := 1) (by decide +kernel) (by omega) hN ?_
  refine r_arg (p := 1776) (j := 2) (c := 2) (by decide +kernel) (by omega) hN ?_
  refine r_boo (p := 1782) (by decide +kernel) ?_
  refine r_call1 (b := b) 1793 [.ref 0, .int (xs (6 * n + 1)), .int (bz (xs (6 * n + 2)))] (rw_at h 5 rfl) rfl rfl (by cases b <;> rfl) rfl rfl rfl ⟨by omega, by omega⟩ (V9_span h8 h9 hw) (fun x X2 Y2 q => ?_)
  exact r_tai (p := 1793) (off := 232) (by decide +kernel) rfl ⟨by omega, by omega⟩ q (fun X3 Y3 a8 a9 => K b _ _ X3 Y3 _ _ _ lvI_i lvI_i a8 a9 (by omega) (by omega))
theorem tn_38 (hn : 6 * n + 6 ≤ N) (hN : N ≤ 3072) (l5 : lvI v5) (l6 : lvI v6) (h8 : J8 b X Y v) (h9 : J9 X Y v) (hz : z1 ≤ 590000 ∧ z2 ≤ 7200000) (K : TnH xs N Q n z1 z2) : WPl ggL xs N Q 1826 (lvL n v5 v6) [] (LLw b) X Y (z1, z2) := by
  obtain ⟨s, t, f, l, o⟩ := v
  have h : rwOk [(1826, .aload_n 1, 1, [], 0), (1839, .aload_n 3, 1, [], 0), (1840, .invokestatic 245, 3, [], 0), (1843, .istore 5, 2, [], 0), (1845, .aload_n 2, 1, [], 0), (1858, .invokevirtual 247, 3, [], 0)] = true := by decide +kernel
  refine r_load 1827 (v := .ref 0) (rw_at h 0 rfl) rfl rfl ?_
  refine r_arg (p := 1827) (j := 1) (c := 1) (by decide +kernel) (by omega) hN ?_
  refine r_arg (p := 1833) (j := 2) (c := 2) (by decide +kernel) (by omega) hN ?_
  refine r_load 1840 (v := .ref 108) (rw_at h 1 rfl) rfl rfl ?_
  refine r_call1 (b := b) 1843 [.ref 0, .int (xs (6 * n + 1)), .int (xs (6 * n + 2)), .ref 79] (rw_at h 2 rfl) rfl rfl (by cases b <;> rfl) rfl (by cases b <;> rfl) rfl ⟨by omega, by omega⟩ (V8_must h8 h9) (fun k X1 Y1 q => ?_)
  clear h8 h9
  obtain ⟨h8, h9, hw⟩ := q
  refine r_stor 1845 (lvL n (some (.int k)) v6) (rw_at h 3 rfl) rfl rfl ?_
  refine r_load 1846 (v := .ref 79) (rw_at h 4 rfl) rfl rfl ?_
  refine r_arg (p := 1846) (j := 1) (c := 1) (by decide +kernel) (by omega) hN ?_
  refine r_arg (p := 1852) (j := 2) (c := 2) (by decide +kernel) (by omega) hN ?_
  refine r_call1 (b := b) 1861 [.ref 0, .int (xs (6 * n + 1)), .int (xs (6 * n + 2))] (rw_at h 5 rfl) rfl rfl (by cases b <;> rfl) rfl rfl rfl ⟨by omega, by omega⟩ (V9_must h8 h9 hw) (fun x X2 Y2 q => ?_)
  exact r_tai (p := 1861) (off := 164) (by decide +kernel) rfl ⟨by omega, by omega⟩ q (fun X3 Y3 a8 a9 => K b _ _ X3 Y3 _ _ _ lvI_i lvI_i a8 a9 (by omega) (by omega))
theorem tn_39 (hn : 6 * n + 6 ≤ N) (hN : N ≤ 3072) (l5 : lvI v5) (l6 : lvI v6) (h8 : J8 b X Y v) (h9 : J9 X Y v) (hz : z1 ≤ 590000 ∧ z2 ≤ 7200000) (K : TnH xs N Q n z1 z2) : WPl ggL xs N Q 1894 (lvL n v5 v6) [] (LLw b) X Y (z1, z2) := by
  obtain ⟨s, t, f, l, o⟩ := v
  have h : rwOk [(1894, .aload_n 1, 1, [], 0), (1901, .aload_n 3, 1, [], 0), (1902, .invokestatic 248, 3, [], 0), (1905, .istore 5, 2, [], 0), (1907, .aload_n 2, 1, [], 0), (1914, .invokevirtual 250, 3, [], 0)] = true := by decide +kernel
  cases b
  · skip
    refine r_load 1895 (v := .ref 0) (rw_at h 0 rfl) rfl rfl ?_
    refine r_arg (p := 1895) (j := 1) (c := 1) (by decide +kernel) (by omega) hN ?_
    refine r_load 1902 (v := .ref 108) (rw_at h 1 rfl) rfl rfl ?_
    refine r_call1 (b := false) 1905 [.ref 0, .int (xs (6 * n + 1)), .ref 79] (rw_at h 2 rfl) rfl rfl (by rcases l5 with rfl | ⟨x5, rfl⟩ <;> rcases l6 with rfl | ⟨x6, rfl⟩ <;> rfl) rfl rfl rfl ⟨by omega, by omega⟩ (V8_listF h8 h9) (fun k X1 Y1 q => ?_)
    clear h8 h9
    obtain ⟨h8, h9, hw⟩ := q
    refine r_stor 1907 (lvL n (some (.int k)) v6) (rw_at h 3 rfl) rfl rfl ?_
    refine r_load 1908 (v := .ref 79) (rw_at h 4 rfl) rfl rfl ?_
    refine r_arg (p := 1908) (j := 1) (c := 1) (by decide +kernel) (by omega) hN ?_
    refine r_call1 (b := true) 1917 [.ref 0, .int (xs (6 * n + 1))] (rw_at h 5 rfl) rfl rfl rfl rfl rfl rfl ⟨by omega, by omega⟩ (V9_list h8 h9 hw) (fun x X2 Y2 q => ?_)
    exact r_tai (p := 1917) (off := 108) (by decide +kernel) rfl ⟨by omega, by omega⟩ q (fun X3 Y3 a8 a9 => K true _ _ X3 Y3 _ _ _ lvI_i lvI_i a8 a9 (by omega) (by omega))
  · skip
    refine r_load 1895 (v := .ref 0) (rw_at h 0 rfl) rfl rfl ?_
    refine r_arg (p := 1895) (j := 1) (c := 1) (by decide +kernel) (by omega) hN ?_
    refine r_load 1902 (v := .ref 108) (rw_at h 1 rfl) rfl rfl ?_
    refine r_call1 (b := true) 1905 [.ref 0, .int (xs (6 * n + 1)), .ref 79] (rw_at h 2 rfl) rfl rfl rfl rfl rfl rfl ⟨by omega, by omega⟩ (V8_listT h8 h9) (fun k X1 Y1 q => ?_)
    clear h8 h9
    obtain ⟨h8, h9, hw⟩ := q
    refine r_stor 1907 (lvL n (some (.int k)) v6) (rw_at h 3 rfl) rfl rfl ?_
    refine r_load 1908 (v := .ref 79) (rw_at h 4 rfl) rfl rfl ?_
    refine r_arg (p := 1908) (j := 1) (c := 1) (by decide +kernel) (by omega) hN ?_
    refine r_call1 (b := true) 1917 [.ref 0, .int (xs (6 * n + 1))] (rw_at h 5 rfl) rfl rfl rfl rfl rfl rfl ⟨by omega, by omega⟩ (V9_list h8 h9 hw) (fun x X2 Y2 q => ?_)
    exact r_tai (p := 1917) (off := 108) (by decide +kernel) rfl ⟨by omega, by omega⟩ q (fun X3 Y3 a8 a9 => K true _ _ X3 Y3 _ _ _ lvI_i lvI_i a8 a9 (by omega) (by omega))
theorem tn_40 (hn : 6 * n + 6 ≤ N) (hN : N ≤ 3072) (l5 : lvI v5) (l6 : lvI v6) (h8 : J8 b X Y v) (h9 : J9 X Y v) (hz : z1 ≤ 590000 ∧ z2 ≤ 7200000) (K : TnH xs N Q n z1 z2) : WPl ggL xs N Q 1950 (lvL n v5 v6) [] (LLw b) X Y (z1, z2) := by
  obtain ⟨s, t, f, l, o⟩ := v
  have h : rwOk [(1950, .aload_n 1, 1, [], 0), (1957, .aload_n 3, 1, [], 0), (1958, .invokestatic 251, 3, [], 0), (1961, .istore 5, 2, [], 0), (1963, .aload_n 2, 1, [], 0), (1970, .invokevirtual 253, 3, [], 0)] = true := by decide +kernel
  refine r_load 1951 (v := .ref 0) (rw_at h 0 rfl) rfl rfl ?_
  refine r_arg (p := 1951) (j := 1) (c := 1) (by decide +kernel) (by omega) hN ?_
  refine r_load 1958 (v := .ref 108) (rw_at h 1 rfl) rfl rfl ?_
  refine r_call1 (b := b) 1961 [.ref 0, .int (xs (6 * n + 1)), .ref 79] (rw_at h 2 rfl) rfl rfl (by cases b <;> rfl) rfl (by cases b <;> rfl) rfl ⟨by omega, by omega⟩ (V8_listed h8 h9) (fun k X1 Y1 q => ?_)
  clear h8 h9
  obtain ⟨h8, h9, hw⟩ := q
  refine r_stor 1963 (lvL n (some (.int k)) v6) (rw_at h 3 rfl) rfl rfl ?_
  refine r_load 1964 (v := .ref 79) (rw_at h 4 rfl) rfl rfl ?_
  refine r_arg (p := 1964) (j := 1) (c := 1) (by decide +kernel) (by omega) hN ?_
  refine r_call1 (b := b) 1973 [.ref 0, .int (xs (6 * n + 1))] (rw_at h 5 rfl) rfl rfl (by cases b <;> rfl) rfl rfl rfl ⟨by omega, by omega⟩ (V9_listed h8 h9 hw) (fun x X2 Y2 q => ?_)
  exact r_tai (p := 1973) (off := 52) (by decide +kernel) rfl ⟨by omega, by omega⟩ q (fun X3 Y3 a8 a9 => K b _ _ X3 Y3 _ _ _ lvI_i lvI_i a8 a9 (by omega) (by omega))
theorem tn_41 (hn : 6 * n + 6 ≤ N) (hN : N ≤ 3072) (l5 : lvI v5) (l6 : lvI v6) (h8 : J8 b X Y v) (h9 : J9 X Y v) (hz : z1 ≤ 590000 ∧ z2 ≤ 7200000) (K : TnH xs N Q n z1 z2) : WPl ggL xs N Q 2006 (lvL n v5 v6) [] (LLw b) X Y (z1, z2) := by
  obtain ⟨s, t, f, l, o⟩ := v
  have h : rwOk [(2006, .aload_n 1, 1, [], 0), (2007, .invokevirtual 254, 3, [], 0), (2010, .aload_n 2, 1, [], 0), (2011, .invokevirtual 257, 3, [], 0), (2014, .goto 41, 3, [2055], 0)] = true := by decide +kernel
  refine r_load 2007 (v := .ref 0) (rw_at h 0 rfl) rfl rfl ?_
  refine r_call0 (b := b) 2010 [.ref 0] (rw_at h 1 rfl) rfl rfl (by cases b <;> rfl) rfl (by cases b <;> rfl) rfl ⟨by omega, by omega⟩ (V8_image h8 h9) (fun X1 Y1 q => ?_)
  clear h8 h9
  obtain ⟨h8, h9⟩ := q
  refine r_load 2011 (v := .ref 79) (rw_at h 2 rfl) rfl rfl ?_
  refine r_call0 (b := b) 2014 [.ref 0] (rw_at h 3 rfl) rfl rfl (by cases b <;> rfl) rfl rfl rfl ⟨by omega, by omega⟩ (V9_image h8 h9) (fun X2 Y2 q => ?_)
  exact r_goto 2055 (rw_at h 4 rfl) (K b _ _ _ _ _ _ _ l5 l6 q.1 q.2 (by omega) (by omega))
theorem tn_42 (hn : 6 * n + 6 ≤ N) (hN : N ≤ 3072) (l5 : lvI v5) (l6 : lvI v6) (h8 : J8 b X Y v) (h9 : J9 X Y v) (hz : z1 ≤ 590000 ∧ z2 ≤ 7200000) (K : TnH xs N Q n z1 z2) : WPl ggL xs N Q 2017 (lvL n v5 v6) [] (LLw b) X Y (z1, z2) := by
  obtain ⟨s, t, f, l, o⟩ := v
  have h : rwOk [(2017, .aload_n 1, 1, [], 0), (2018, .invokevirtual 258, 3, [], 0), (2021, .aload_n 2, 1, [], 0), (2022, .invokevirtual 261, 3, [], 0), (2025, .if_icmp .eq 30, 3, [2055], 0)] = true := by decide +kernel
  refine r_load 2018 (v := .ref 0) (rw_at h 0 rfl) rfl rfl ?_
  refine r_call1 (b := b) 2021 [.ref 0] (rw_at h 1 rfl) rfl rfl (by cases b <;> rfl) rfl (by cases b <;> rfl) rfl ⟨by omega, by omega⟩ (V8_back h8 h9) (fun k X1 Y1 q => ?_)
  clear h8 h9
  obtain ⟨h8, h9, hw⟩ := q
  refine r_load 2022 (v := .ref 79) (rw_at h 2 rfl) rfl rfl ?_
  refine r_call1 (b := b) 2025 [.ref 0] (rw_at h 3 rfl) rfl rfl (by cases b <;> rfl) rfl rfl rfl ⟨by omega, by omega⟩ (V9_back h8 h9 hw) (fun x X2 Y2 q => ?_)
  exact r_eq (rw_at h 4 rfl) q.2.2 (K b _ _ _ _ _ _ _ l5 l6 q.1 q.2.1 (by omega) (by omega))
theorem tn_43 (hn : 6 * n + 6 ≤ N) (hN : N ≤ 3072) (l5 : lvI v5) (l6 : lvI v6) (h8 : J8 b X Y v) (h9 : J9 X Y v) (hz : z1 ≤ 590000 ∧ z2 ≤ 7200000) (K : TnH xs N Q n z1 z2) : WPl ggL xs N Q 2030 (lvL n v5 v6) [] (LLw b) X Y (z1, z2) := by
  obtain ⟨s, t, f, l, o⟩ := v
  have h : rwOk [(2030, .aload_n 1, 1, [], 0), (2037, .invokevirtual 262, 3, [], 0), (2040, .aload_n 2, 1, [], 0), (2047, .invokevirtual 265, 3, [], 0), (2050, .if_icmp .eq 5, 3, [2055], 0)] = true := by decide +kernel
  refine r_load 2031 (v := .ref 0) (rw_at h 0 rfl) rfl rfl ?_
  refine r_arg (p := 2031) (j := 1) (c := 1) (by decide +kernel) (by omega) hN ?_
  refine r_call1 (b := b) 2040 [.ref 0, .int (xs (6 * n + 1))] (rw_at h 1 rfl) rfl rfl (by cases b <;> rfl) rfl (by cases b <;> rfl) rfl ⟨by omega, by omega⟩ (V8_sum h8 h9) (fun k X1 Y1 q => ?_)
  clear h8 h9
  obtain ⟨h8, h9, hw⟩ := q
  refine r_load 2041 (v := .ref 79) (rw_at h 2 rfl) rfl rfl ?_
  refine r_arg (p := 2041) (j := 1) (c := 1) (by decide +kernel) (by omega) hN ?_
  refine r_call1 (b := b) 2050 [.ref 0, .int (xs (6 * n + 1))] (rw_at h 3 rfl) rfl rfl (by cases b <;> rfl) rfl rfl rfl ⟨by omega, by omega⟩ (V9_sum h8 h9 hw) (fun x X2 Y2 q => ?_)
  exact r_eq (rw_at h 4 rfl) q.2.2 (K b _ _ _ _ _ _ _ l5 l6 q.1 q.2.1 (by omega) (by omega))
end Trn
