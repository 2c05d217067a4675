/-! the law's loop -/
theorem tswL_all {K : Nat → Prop} {x : Int32} : ∀ (ts : List Nat) (v : Int), (∀ t ∈ ts, K t) → tswL K x v ts
  | [], _, _ => trivial
  | t :: ts, v, h => ⟨fun _ => h t List.mem_cons_self, tswL_all ts (v + 1) (fun q hq => h q (List.mem_cons_of_mem _ hq))⟩
def tgsL : List Nat := [232, 305, 330, 374, 418, 431, 499, 590, 658, 683, 739, 752, 765, 821, 877, 961, 974, 987, 1012, 1025, 1050, 1064, 1132, 1219, 1232, 1273, 1286, 1346, 1402, 1458, 1514, 1527, 1552, 1565, 1628, 1684, 1728, 1742, 1826, 1894, 1950, 2006, 2017, 2030]
section Lop
variable {xs : Nat → Int32} {N : Nat} {Q : Qt} {X : HX} {Y : HY} {n z1 z2 : Nat} {v5 v6 : Option Value} {b : Bool} {v : Sv}
theorem tn_all (hn : 6 * n + 6 ≤ N) (hN : N ≤ 3072) (l5 : lvI v5) (l6 : lvI v6) (h8 : J8 b X Y v) (h9 : J9 X Y v) (hz : z1 ≤ 590000 ∧ z2 ≤ 7200000) (K : TnH xs N Q n z1 z2) : ∀ t ∈ tgsL, WPl ggL xs N Q t (lvL n v5 v6) [] (LLw b) X Y (z1, z2) :=
  List.forall_mem_cons.mpr ⟨tn_0 hn hN l5 l6 h8 h9 hz K, List.forall_mem_cons.mpr ⟨tn_1 hn hN l5 l6 h8 h9 hz K, List.forall_mem_cons.mpr ⟨tn_2 hn hN l5 l6 h8 h9 hz K, List.forall_mem_cons.mpr ⟨tn_3 hn hN l5 l6 h8 h9 hz K, List.forall_mem_cons.mpr ⟨tn_4 hn hN l5 l6 h8 h9 hz K, List.forall_mem_cons.mpr ⟨tn_5 hn hN l5 l6 h8 h9 hz K, List.forall_mem_cons.mpr ⟨tn_6 hn hN l5 l6 h8 h9 hz K, List.forall_mem_cons.mpr ⟨tn_7 hn hN l5 l6 h8 h9 hz K, List.forall_mem_cons.mpr ⟨tn_8 hn hN l5 l6 h8 h9 hz K, List.forall_mem_cons.mpr ⟨tn_9 hn hN l5 l6 h8 h9 hz K, List.forall_mem_cons.mpr ⟨tn_10 hn hN l5 l6 h8 h9 hz K, List.forall_mem_cons.mpr ⟨tn_11 hn hN l5 l6 h8 h9 hz K, List.forall_mem_cons.mpr ⟨tn_12 hn hN l5 l6 h8 h9 hz K, List.forall_mem_cons.mpr ⟨tn_13 hn hN l5 l6 h8 h9 hz K, List.forall_mem_cons.mpr ⟨tn_14 hn hN l5 l6 h8 h9 hz K, List.forall_mem_cons.mpr ⟨tn_15 hn hN l5 l6 h8 h9 hz K, List.forall_mem_cons.mpr ⟨tn_16 hn hN l5 l6 h8 h9 hz K, List.forall_mem_cons.mpr ⟨tn_17 hn hN l5 l6 h8 h9 hz K, List.forall_mem_cons.mpr ⟨tn_18 hn hN l5 l6 h8 h9 hz K, List.forall_mem_cons.mpr ⟨tn_19 hn hN l5 l6 h8 h9 hz K, List.forall_mem_cons.mpr ⟨tn_20 hn hN l5 l6 h8 h9 hz K, List.forall_mem_cons.mpr ⟨tn_21 hn hN l5 l6 h8 h9 hz K, List.forall_mem_cons.mpr ⟨tn_22 hn hN l5 l6 h8 h9 hz K, List.forall_mem_cons.mpr ⟨tn_23 hn hN l5 l6 h8 h9 hz K, List.forall_mem_cons.mpr ⟨tn_24 hn hN l5 l6 h8 h9 hz K, List.forall_mem_cons.mpr ⟨tn_25 hn hN l5 l6 h8 h9 hz K, List.forall_mem_cons.mpr ⟨tn_26 hn hN l5 l6 h8 h9 hz K, List.forall_mem_cons.mpr ⟨tn_27 hn hN l5 l6 h8 h9 hz K, List.forall_mem_cons.mpr ⟨tn_28 hn hN l5 l6 h8 h9 hz K, List.forall_mem_cons.mpr ⟨tn_29 hn hN l5 l6 h8 h9 hz K, List.forall_mem_cons.mpr ⟨tn_30 hn hN l5 l6 h8 h9 hz K, List.forall_mem_cons.mpr ⟨tn_31 hn hN l5 l6 h8 h9 hz K, List.forall_mem_cons.mpr ⟨tn_32 hn hN l5 l6 h8 h9 hz K, List.forall_mem_cons.mpr ⟨tn_33 hn hN l5 l6 h8 h9 hz K, List.forall_mem_cons.mpr ⟨tn_34 hn hN l5 l6 h8 h9 hz K, List.forall_mem_cons.mpr ⟨tn_35 hn hN l5 l6 h8 h9 hz K, List.forall_mem_cons.mpr ⟨tn_36 hn hN l5 l6 h8 h9 hz K, List.forall_mem_cons.mpr ⟨tn_37 hn hN l5 l6 h8 h9 hz K, List.forall_mem_cons.mpr ⟨tn_38 hn hN l5 l6 h8 h9 hz K, List.forall_mem_cons.mpr ⟨tn_39 hn hN l5 l6 h8 h9 hz K, List.forall_mem_cons.mpr ⟨tn_40 hn hN l5 l6 h8 h9 hz K, List.forall_mem_cons.mpr ⟨tn_41 hn hN l5 l6 h8 h9 hz K, List.forall_mem_cons.mpr ⟨tn_42 hn hN l5 l6 h8 h9 hz K, List.forall_mem_cons.mpr ⟨tn_43 hn hN l5 l6 h8 h9 hz K, fun _ h => absurd h List.not_mem_nil⟩⟩⟩⟩⟩⟩⟩⟩⟩⟩⟩⟩⟩⟩⟩⟩⟩⟩⟩⟩⟩⟩⟩⟩⟩⟩⟩⟩⟩⟩⟩⟩⟩⟩⟩⟩⟩⟩⟩⟩⟩⟩⟩⟩
theorem tn (hn : 6 * n + 6 ≤ N) (hN : N ≤ 3072) (l5 : lvI v5) (l6 : lvI v6) (h8 : J8 b X Y v) (h9 : J9 X Y v) (hz : z1 ≤ 590000 ∧ z2 ≤ 7200000) (K : TnH xs N Q n z1 z2) : WPl ggL xs N Q 33 (lvL n v5 v6) [] (LLw b) X Y (z1, z2) := by
  have h : rwOk [(33, .aload_n 0, 1, [], 0), (34, .iload 4, 2, [], 0), (36, .iaload, 1, [], 0), (37, .bipush 63, 2, [], nI 63), (39, .iand, 1, [], 0), (40, .tableswitch 2015 0 43 #[192, 265, 290, 334, 378, 391, 459, 550, 618, 643, 699, 712, 725, 781, 837, 921, 934, 947, 972, 985, 1010, 1024, 1092, 1179, 1192, 1233, 1246, 1306, 1362, 1418, 1474, 1487, 1512, 1525, 1588, 1644, 1688, 1702, 1786, 1854, 1910, 1966, 1977, 1990], 192, 2055 :: tgsL, 0)] = true := by decide +kernel
  refine r_load 34 (v := .ref 1999) (rw_at h 0 rfl) rfl rfl ?_
  refine r_load 36 (v := .int (nI (6 * n))) (rw_at h 1 rfl) rfl rfl ?_
  refine l_sld ggL_m 37 (show cdAt (ggL (LLw b)).1 36 = _ from rw_at h 2 rfl) rfl ((m_in (by omega)).mpr (by omega)) ?_
  generalize xs (nI (6 * n)).toNatClampNeg = x0
  refine l_pure ggL_m 39 [.int (nI 63), .int x0] (show cdAt (ggL (LLw b)).1 37 = _ from rw_at h 3 rfl) rfl rfl ?_
  refine l_pure ggL_m 40 [.int (x0 &&& nI 63)] (show cdAt (ggL (LLw b)).1 39 = _ from rw_at h 4 rfl) rfl rfl ?_
  exact l_ts ggL_m (show cdAt (ggL (LLw b)).1 40 = _ from rw_at h 5 rfl) (fun _ => K b v5 v6 X Y v z1 z2 l5 l6 h8 h9 (by omega) (by omega)) (tswL_all tgsL _ (tn_all hn hN l5 l6 h8 h9 hz K))
theorem lp_cmp {N n : Nat} (hN : N ≤ 3072) (hn : 6 * n ≤ N) (q : ¬ nI N - nI 6 < nI (6 * n)) : 6 * n + 6 ≤ N := by
  rw [← m_zI N, ← m_zI 6, ← m_zI (6 * n), m_zsub, m_zlt (by omega) (by omega)] at q
  omega
theorem lp (hN : N ≤ 3072) (hQ : ∀ L X Y, Q (.inl (some (.int (nI 1)))) L X Y) : ∀ m n b v5 v6 X Y v z1 z2, N ≤ 6 * (n + m) → 6 * n ≤ N → lvI v5 → lvI v6 → J8 b X Y v → J9 X Y v → z1 + 6 * m ≤ 590000 → z2 + 3800 * m ≤ 7200000 → WPl ggL xs N Q 23 (lvL n v5 v6) [] (LLw b) X Y (z1, z2) := by
  have h : rwOk [(23, .iload 4, 2, [], 0), (25, .aload_n 0, 1, [], 0), (26, .arraylength, 1, [], 0), (27, .bipush 6, 2, [], nI 6), (29, .isub, 1, [], 0), (30, .if_icmp .gt 2031, 3, [2061], 0), (2061, .iconst 1, 1, [], nI 1), (2062, .ireturn, 1, [], 0), (2055, .iinc 4 6, 3, [], nI 6), (2058, .goto (-2035), 3, [23], 0)] = true := by decide +kernel
  have head : ∀ n b v5 v6 X Y z1 z2, z1 ≤ 601024 → z2 ≤ 7293034 → (¬ nI N - nI 6 < nI (6 * n) → WPl ggL xs N Q 33 (lvL n v5 v6) [] (LLw b) X Y (z1, z2)) → WPl ggL xs N Q 23 (lvL n v5 v6) [] (LLw b) X Y (z1, z2) := by
    intro n b v5 v6 X Y z1 z2 hz1 hz2 k
    refine r_load 25 (v := .int (nI (6 * n))) (rw_at h 0 rfl) rfl rfl ?_
    refine r_load 26 (v := .ref 1999) (rw_at h 1 rfl) rfl rfl ?_
    refine l_slen ggL_m 27 (show cdAt (ggL (LLw b)).1 26 = _ from rw_at h 2 rfl) rfl ?_
    refine l_pure ggL_m 29 [.int (nI 6), .int (nI N), .int (nI (6 * n))] (show cdAt (ggL (LLw b)).1 27 = _ from rw_at h 3 rfl) rfl rfl ?_
    refine l_pure ggL_m 30 [.int (nI N - nI 6), .int (nI (6 * n))] (show cdAt (ggL (LLw b)).1 29 = _ from rw_at h 4 rfl) rfl rfl ?_
    refine l_icmp ggL_m 2061 33 (show cdAt (ggL (LLw b)).1 30 = _ from rw_at h 5 rfl) rfl (fun _ => ?_) (fun q => k q)
    refine l_pure ggL_m 2062 [.int (nI 1)] (show cdAt (ggL (LLw b)).1 2061 = _ from rw_at h 6 rfl) rfl rfl ?_
    refine l_iret ggL_m (show cdAt (ggL (LLw b)).1 2062 = _ from rw_at h 7 rfl) ?_ rfl (Or.inr rfl) (hQ _ _ _)
    rw [show gMc (ggL (LLw b)) = 601024 from rfl, show gMs (ggL (LLw b)) = 7293034 from rfl, Nat.ble_eq_true_of_le (show (z1, z2).1 ≤ 601024 from hz1), Nat.ble_eq_true_of_le (show (z1, z2).2 ≤ 7293034 from hz2)]
    rfl
  intro m
  induction m with
  | zero =>
    intro n b v5 v6 X Y v z1 z2 e1 e2 l5 l6 h8 h9 hz1 hz2
    exact head n b v5 v6 X Y z1 z2 (by omega) (by omega) (fun q => absurd (lp_cmp hN e2 q) (by omega))
  | succ m ih =>
    intro n b v5 v6 X Y v z1 z2 e1 e2 l5 l6 h8 h9 hz1 hz2
    refine head n b v5 v6 X Y z1 z2 (by omega) (by omega) (fun q => ?_)
    have hn := lp_cmp hN e2 q
    refine tn hn hN l5 l6 h8 h9 ⟨by omega, by omega⟩ (fun b' v5' v6' X' Y' v' z1' z2' m5 m6 m8 m9 w1 w2 => ?_)
    refine l_iinc ggL_m (x := nI (6 * n)) 2058 (lvL (n + 1) v5' v6') (show cdAt (ggL (LLw b')).1 2055 = _ from rw_at h 8 rfl) rfl ?_ rfl ?_
    · rw [m_add, show 6 * n + 6 = 6 * (n + 1) by omega]
      rfl
    · exact r_goto 23 (rw_at h 9 rfl) (ih (n + 1) b' v5' v6' X' Y' v' z1' z2' (by omega) (by omega) m5 m6 m8 m9 (by omega) (by omega))
end Lop
