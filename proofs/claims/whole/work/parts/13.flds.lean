/-! fields by their entries -/
def lk {α : Type} : List (Nat × α) → Nat → Option α
  | [], _ => none
  | q :: l, i => if q.1 = i then some q.2 else lk l i
theorem lk_in {α : Type} {l : List (Nat × α)} {i : Nat} {a : α} (h : lk l i = some a) : (i, a) ∈ l := by
  induction l with
  | nil => cases h
  | cons q l ih =>
    unfold lk at h
    split at h
    · rename_i e
      cases h
      rw [← e]
      exact List.mem_cons_self
    · exact List.mem_cons_of_mem _ (ih h)
def fdX0 : List (Nat × Nat × Nat) := [(59, 6, 0), (62, 6, 1), (63, 6, 2), (64, 6, 3), (65, 6, 4), (9, 0, 0), (15, 0, 1), (18, 0, 2), (22, 0, 3), (26, 0, 4), (29, 0, 5), (32, 0, 6), (35, 0, 7), (38, 0, 8), (41, 0, 9), (44, 0, 10), (47, 0, 11), (50, 0, 12), (53, 0, 13), (56, 0, 14)]
theorem fdX0_19 : FldOk RX0 56 0 14 := ⟨RX0, TX0, 15, rfl, Nat.le_of_ble_eq_true rfl, wfX0_56⟩
theorem fdX0_18 : FldOk RX0 53 0 13 := ⟨RX0, TX0, 15, rfl, Nat.le_of_ble_eq_true rfl, wfX0_53⟩
theorem fdX0_17 : FldOk RX0 50 0 12 := ⟨RX0, TX0, 15, rfl, Nat.le_of_ble_eq_true rfl, wfX0_50⟩
theorem fdX0_16 : FldOk RX0 47 0 11 := ⟨RX0, TX0, 15, rfl, Nat.le_of_ble_eq_true rfl, wfX0_47⟩
theorem fdX0_15 : FldOk RX0 44 0 10 := ⟨RX0, TX0, 15, rfl, Nat.le_of_ble_eq_true rfl, wfX0_44⟩
theorem fdX0_14 : FldOk RX0 41 0 9 := ⟨RX0, TX0, 15, rfl, Nat.le_of_ble_eq_true rfl, wfX0_41⟩
theorem fdX0_13 : FldOk RX0 38 0 8 := ⟨RX0, TX0, 15, rfl, Nat.le_of_ble_eq_true rfl, wfX0_38⟩
theorem fdX0_12 : FldOk RX0 35 0 7 := ⟨RX0, TX0, 15, rfl, Nat.le_of_ble_eq_true rfl, wfX0_35⟩
theorem fdX0_11 : FldOk RX0 32 0 6 := ⟨RX0, TX0, 15, rfl, Nat.le_of_ble_eq_true rfl, wfX0_32⟩
theorem fdX0_10 : FldOk RX0 29 0 5 := ⟨RX0, TX0, 15, rfl, Nat.le_of_ble_eq_true rfl, wfX0_29⟩
theorem fdX0_9 : FldOk RX0 26 0 4 := ⟨RX0, TX0, 15, rfl, Nat.le_of_ble_eq_true rfl, wfX0_26⟩
theorem fdX0_8 : FldOk RX0 22 0 3 := ⟨RX0, TX0, 15, rfl, Nat.le_of_ble_eq_true rfl, wfX0_22⟩
theorem fdX0_7 : FldOk RX0 18 0 2 := ⟨RX0, TX0, 15, rfl, Nat.le_of_ble_eq_true rfl, wfX0_18⟩
theorem fdX0_6 : FldOk RX0 15 0 1 := ⟨RX0, TX0, 15, rfl, Nat.le_of_ble_eq_true rfl, wfX0_15⟩
theorem fdX0_5 : FldOk RX0 9 0 0 := ⟨RX0, TX0, 15, rfl, Nat.le_of_ble_eq_true rfl, wfX0_9⟩
theorem fdX0_4 : FldOk RX0 65 6 4 := ⟨RX6, TX6, 12, rfl, Nat.le_of_ble_eq_true rfl, wfX0_65⟩
theorem fdX0_3 : FldOk RX0 64 6 3 := ⟨RX6, TX6, 12, rfl, Nat.le_of_ble_eq_true rfl, wfX0_64⟩
theorem fdX0_2 : FldOk RX0 63 6 2 := ⟨RX6, TX6, 12, rfl, Nat.le_of_ble_eq_true rfl, wfX0_63⟩
theorem fdX0_1 : FldOk RX0 62 6 1 := ⟨RX6, TX6, 12, rfl, Nat.le_of_ble_eq_true rfl, wfX0_62⟩
theorem fdX0_0 : FldOk RX0 59 6 0 := ⟨RX6, TX6, 12, rfl, Nat.le_of_ble_eq_true rfl, wfX0_59⟩
theorem fdX0_all : ∀ q ∈ fdX0, FldOk RX0 q.1 q.2.1 q.2.2 := List.forall_mem_cons.mpr ⟨fdX0_0, List.forall_mem_cons.mpr ⟨fdX0_1, List.forall_mem_cons.mpr ⟨fdX0_2, List.forall_mem_cons.mpr ⟨fdX0_3, List.forall_mem_cons.mpr ⟨fdX0_4, List.forall_mem_cons.mpr ⟨fdX0_5, List.forall_mem_cons.mpr ⟨fdX0_6, List.forall_mem_cons.mpr ⟨fdX0_7, List.forall_mem_cons.mpr ⟨fdX0_8, List.forall_mem_cons.mpr ⟨fdX0_9, List.forall_mem_cons.mpr ⟨fdX0_10, List.forall_mem_cons.mpr ⟨fdX0_11, List.forall_mem_cons.mpr ⟨fdX0_12, List.forall_mem_cons.mpr ⟨fdX0_13, List.forall_mem_cons.mpr ⟨fdX0_14, List.forall_mem_cons.mpr ⟨fdX0_15, List.forall_mem_cons.mpr ⟨fdX0_16, List.forall_mem_cons.mpr ⟨fdX0_17, List.forall_mem_cons.mpr ⟨fdX0_18, List.forall_mem_cons.mpr ⟨fdX0_19, fun _ h => absurd h List.not_mem_nil⟩⟩⟩⟩⟩⟩⟩⟩⟩⟩⟩⟩⟩⟩⟩⟩⟩⟩⟩⟩
theorem fdX0_ok : ∀ idx ci k, lk fdX0 idx = some (ci, k) → FldOk RX0 idx ci k := fun _ _ _ h => fdX0_all _ (lk_in h)
def fdX1 : List (Nat × Nat × Nat) := [(89, 3, 1), (60, 3, 3), (9, 1, 0), (15, 1, 1), (18, 1, 2), (21, 1, 3), (24, 1, 4), (27, 1, 5), (31, 1, 6), (35, 1, 7), (39, 1, 8), (42, 1, 9), (45, 1, 10), (48, 1, 11), (51, 1, 12)]
theorem fdX1_14 : FldOk RX1 51 1 12 := ⟨RX1, TX1, 13, rfl, Nat.le_of_ble_eq_true rfl, wfX1_51⟩
theorem fdX1_13 : FldOk RX1 48 1 11 := ⟨RX1, TX1, 13, rfl, Nat.le_of_ble_eq_true rfl, wfX1_48⟩
theorem fdX1_12 : FldOk RX1 45 1 10 := ⟨RX1, TX1, 13, rfl, Nat.le_of_ble_eq_true rfl, wfX1_45⟩
theorem fdX1_11 : FldOk RX1 42 1 9 := ⟨RX1, TX1, 13, rfl, Nat.le_of_ble_eq_true rfl, wfX1_42⟩
theorem fdX1_10 : FldOk RX1 39 1 8 := ⟨RX1, TX1, 13, rfl, Nat.le_of_ble_eq_true rfl, wfX1_39⟩
theorem fdX1_9 : FldOk RX1 35 1 7 := ⟨RX1, TX1, 13, rfl, Nat.le_of_ble_eq_true rfl, wfX1_35⟩
theorem fdX1_8 : FldOk RX1 31 1 6 := ⟨RX1, TX1, 13, rfl, Nat.le_of_ble_eq_true rfl, wfX1_31⟩
theorem fdX1_7 : FldOk RX1 27 1 5 := ⟨RX1, TX1, 13, rfl, Nat.le_of_ble_eq_true rfl, wfX1_27⟩
theorem fdX1_6 : FldOk RX1 24 1 4 := ⟨RX1, TX1, 13, rfl, Nat.le_of_ble_eq_true rfl, wfX1_24⟩
theorem fdX1_5 : FldOk RX1 21 1 3 := ⟨RX1, TX1, 13, rfl, Nat.le_of_ble_eq_true rfl, wfX1_21⟩
theorem fdX1_4 : FldOk RX1 18 1 2 := ⟨RX1, TX1, 13, rfl, Nat.le_of_ble_eq_true rfl, wfX1_18⟩
theorem fdX1_3 : FldOk RX1 15 1 1 := ⟨RX1, TX1, 13, rfl, Nat.le_of_ble_eq_true rfl, wfX1_15⟩
theorem fdX1_2 : FldOk RX1 9 1 0 := ⟨RX1, TX1, 13, rfl, Nat.le_of_ble_eq_true rfl, wfX1_9⟩
theorem fdX1_1 : FldOk RX1 60 3 3 := ⟨RX3, TX3, 9, rfl, Nat.le_of_ble_eq_true rfl, wfX1_60⟩
theorem fdX1_0 : FldOk RX1 89 3 1 := ⟨RX3, TX3, 9, rfl, Nat.le_of_ble_eq_true rfl, wfX1_89⟩
theorem fdX1_all : ∀ q ∈ fdX1, FldOk RX1 q.1 q.2.1 q.2.2 := List.forall_mem_cons.mpr ⟨fdX1_0, List.forall_mem_cons.mpr ⟨fdX1_1, List.forall_mem_cons.mpr ⟨fdX1_2, List.forall_mem_cons.mpr ⟨fdX1_3, List.forall_mem_cons.mpr ⟨fdX1_4, List.forall_mem_cons.mpr ⟨fdX1_5, List.forall_mem_cons.mpr ⟨fdX1_6, List.forall_mem_cons.mpr ⟨fdX1_7, List.forall_mem_cons.mpr ⟨fdX1_8, List.forall_mem_cons.mpr ⟨fdX1_9, List.forall_mem_cons.mpr ⟨fdX1_10, List.forall_mem_cons.mpr ⟨fdX1_11, List.forall_mem_cons.mpr ⟨fdX1_12, List.forall_mem_cons.mpr ⟨fdX1_13, List.forall_mem_cons.mpr ⟨fdX1_14, fun _ h => absurd h List.not_mem_nil⟩⟩⟩⟩⟩⟩⟩⟩⟩⟩⟩⟩⟩⟩⟩
theorem fdX1_ok : ∀ idx ci k, lk fdX1 idx = some (ci, k) → FldOk RX1 idx ci k := fun _ _ _ h => fdX1_all _ (lk_in h)
def fdX2 : List (Nat × Nat × Nat) := [(9, 2, 0), (15, 2, 1), (19, 2, 2), (22, 2, 3)]
theorem fdX2_3 : FldOk RX2 22 2 3 := ⟨RX2, TX2, 4, rfl, Nat.le_of_ble_eq_true rfl, wfX2_22⟩
theorem fdX2_2 : FldOk RX2 19 2 2 := ⟨RX2, TX2, 4, rfl, Nat.le_of_ble_eq_true rfl, wfX2_19⟩
theorem fdX2_1 : FldOk RX2 15 2 1 := ⟨RX2, TX2, 4, rfl, Nat.le_of_ble_eq_true rfl, wfX2_15⟩
theorem fdX2_0 : FldOk RX2 9 2 0 := ⟨RX2, TX2, 4, rfl, Nat.le_of_ble_eq_true rfl, wfX2_9⟩
theorem fdX2_all : ∀ q ∈ fdX2, FldOk RX2 q.1 q.2.1 q.2.2 := List.forall_mem_cons.mpr ⟨fdX2_0, List.forall_mem_cons.mpr ⟨fdX2_1, List.forall_mem_cons.mpr ⟨fdX2_2, List.forall_mem_cons.mpr ⟨fdX2_3, fun _ h => absurd h List.not_mem_nil⟩⟩⟩⟩
theorem fdX2_ok : ∀ idx ci k, lk fdX2 idx = some (ci, k) → FldOk RX2 idx ci k := fun _ _ _ h => fdX2_all _ (lk_in h)
def fdX3 : List (Nat × Nat × Nat) := [(45, 4, 0), (9, 3, 0), (15, 3, 1), (18, 3, 2), (21, 3, 3), (25, 3, 4), (29, 3, 5), (32, 3, 6), (35, 3, 7), (38, 3, 8)]
theorem fdX3_9 : FldOk RX3 38 3 8 := ⟨RX3, TX3, 9, rfl, Nat.le_of_ble_eq_true rfl, wfX3_38⟩
theorem fdX3_8 : FldOk RX3 35 3 7 := ⟨RX3, TX3, 9, rfl, Nat.le_of_ble_eq_true rfl, wfX3_35⟩
theorem fdX3_7 : FldOk RX3 32 3 6 := ⟨RX3, TX3, 9, rfl, Nat.le_of_ble_eq_true rfl, wfX3_32⟩
theorem fdX3_6 : FldOk RX3 29 3 5 := ⟨RX3, TX3, 9, rfl, Nat.le_of_ble_eq_true rfl, wfX3_29⟩
theorem fdX3_5 : FldOk RX3 25 3 4 := ⟨RX3, TX3, 9, rfl, Nat.le_of_ble_eq_true rfl, wfX3_25⟩
theorem fdX3_4 : FldOk RX3 21 3 3 := ⟨RX3, TX3, 9, rfl, Nat.le_of_ble_eq_true rfl, wfX3_21⟩
theorem fdX3_3 : FldOk RX3 18 3 2 := ⟨RX3, TX3, 9, rfl, Nat.le_of_ble_eq_true rfl, wfX3_18⟩
theorem fdX3_2 : FldOk RX3 15 3 1 := ⟨RX3, TX3, 9, rfl, Nat.le_of_ble_eq_true rfl, wfX3_15⟩
theorem fdX3_1 : FldOk RX3 9 3 0 := ⟨RX3, TX3, 9, rfl, Nat.le_of_ble_eq_true rfl, wfX3_9⟩
theorem fdX3_0 : FldOk RX3 45 4 0 := ⟨RX4, TX4, 5, rfl, Nat.le_of_ble_eq_true rfl, wfX3_45⟩
theorem fdX3_all : ∀ q ∈ fdX3, FldOk RX3 q.1 q.2.1 q.2.2 := List.forall_mem_cons.mpr ⟨fdX3_0, List.forall_mem_cons.mpr ⟨fdX3_1, List.forall_mem_cons.mpr ⟨fdX3_2, List.forall_mem_cons.mpr ⟨fdX3_3, List.forall_mem_cons.mpr ⟨fdX3_4, List.forall_mem_cons.mpr ⟨fdX3_5, List.forall_mem_cons.mpr ⟨fdX3_6, List.forall_mem_cons.mpr ⟨fdX3_7, List.forall_mem_cons.mpr ⟨fdX3_8, List.forall_mem_cons.mpr ⟨fdX3_9, fun _ h => absurd h List.not_mem_nil⟩⟩⟩⟩⟩⟩⟩⟩⟩⟩
theorem fdX3_ok : ∀ idx ci k, lk fdX3 idx = some (ci, k) → FldOk RX3 idx ci k := fun _ _ _ h => fdX3_all _ (lk_in h)
def fdX4 : List (Nat × Nat × Nat) := [(18, 4, 0), (9, 4, 1), (15, 4, 2), (22, 4, 3), (26, 4, 4)]
theorem fdX4_4 : FldOk RX4 26 4 4 := ⟨RX4, TX4, 5, rfl, Nat.le_of_ble_eq_true rfl, wfX4_26⟩
theorem fdX4_3 : FldOk RX4 22 4 3 := ⟨RX4, TX4, 5, rfl, Nat.le_of_ble_eq_true rfl, wfX4_22⟩
theorem fdX4_2 : FldOk RX4 15 4 2 := ⟨RX4, TX4, 5, rfl, Nat.le_of_ble_eq_true rfl, wfX4_15⟩
theorem fdX4_1 : FldOk RX4 9 4 1 := ⟨RX4, TX4, 5, rfl, Nat.le_of_ble_eq_true rfl, wfX4_9⟩
theorem fdX4_0 : FldOk RX4 18 4 0 := ⟨RX4, TX4, 5, rfl, Nat.le_of_ble_eq_true rfl, wfX4_18⟩
theorem fdX4_all : ∀ q ∈ fdX4, FldOk RX4 q.1 q.2.1 q.2.2 := List.forall_mem_cons.mpr ⟨fdX4_0, List.forall_mem_cons.mpr ⟨fdX4_1, List.forall_mem_cons.mpr ⟨fdX4_2, List.forall_mem_cons.mpr ⟨fdX4_3, List.forall_mem_cons.mpr ⟨fdX4_4, fun _ h => absurd h List.not_mem_nil⟩⟩⟩⟩⟩
theorem fdX4_ok : ∀ idx ci k, lk fdX4 idx = some (ci, k) → FldOk RX4 idx ci k := fun _ _ _ h => fdX4_all _ (lk_in h)
def fdX5 : List (Nat × Nat × Nat) := [(55, 0, 0), (29, 0, 1), (47, 0, 3), (34, 0, 4), (37, 0, 5), (44, 0, 7), (9, 5, 0), (15, 5, 1), (18, 5, 2), (22, 5, 3), (26, 5, 4)]
theorem fdX5_10 : FldOk RX5 26 5 4 := ⟨RX5, TX5, 5, rfl, Nat.le_of_ble_eq_true rfl, wfX5_26⟩
theorem fdX5_9 : FldOk RX5 22 5 3 := ⟨RX5, TX5, 5, rfl, Nat.le_of_ble_eq_true rfl, wfX5_22⟩
theorem fdX5_8 : FldOk RX5 18 5 2 := ⟨RX5, TX5, 5, rfl, Nat.le_of_ble_eq_true rfl, wfX5_18⟩
theorem fdX5_7 : FldOk RX5 15 5 1 := ⟨RX5, TX5, 5, rfl, Nat.le_of_ble_eq_true rfl, wfX5_15⟩
theorem fdX5_6 : FldOk RX5 9 5 0 := ⟨RX5, TX5, 5, rfl, Nat.le_of_ble_eq_true rfl, wfX5_9⟩
theorem fdX5_5 : FldOk RX5 44 0 7 := ⟨RX0, TX0, 15, rfl, Nat.le_of_ble_eq_true rfl, wfX5_44⟩
theorem fdX5_4 : FldOk RX5 37 0 5 := ⟨RX0, TX0, 15, rfl, Nat.le_of_ble_eq_true rfl, wfX5_37⟩
theorem fdX5_3 : FldOk RX5 34 0 4 := ⟨RX0, TX0, 15, rfl, Nat.le_of_ble_eq_true rfl, wfX5_34⟩
theorem fdX5_2 : FldOk RX5 47 0 3 := ⟨RX0, TX0, 15, rfl, Nat.le_of_ble_eq_true rfl, wfX5_47⟩
theorem fdX5_1 : FldOk RX5 29 0 1 := ⟨RX0, TX0, 15, rfl, Nat.le_of_ble_eq_true rfl, wfX5_29⟩
theorem fdX5_0 : FldOk RX5 55 0 0 := ⟨RX0, TX0, 15, rfl, Nat.le_of_ble_eq_true rfl, wfX5_55⟩
theorem fdX5_all : ∀ q ∈ fdX5, FldOk RX5 q.1 q.2.1 q.2.2 := List.forall_mem_cons.mpr ⟨fdX5_0, List.forall_mem_cons.mpr ⟨fdX5_1, List.forall_mem_cons.mpr ⟨fdX5_2, List.forall_mem_cons.mpr ⟨fdX5_3, List.forall_mem_cons.mpr ⟨fdX5_4, List.forall_mem_cons.mpr ⟨fdX5_5, List.forall_mem_cons.mpr ⟨fdX5_6, List.forall_mem_cons.mpr ⟨fdX5_7, List.forall_mem_cons.mpr ⟨fdX5_8, List.forall_mem_cons.mpr ⟨fdX5_9, List.forall_mem_cons.mpr ⟨fdX5_10, fun _ h => absurd h List.not_mem_nil⟩⟩⟩⟩⟩⟩⟩⟩⟩⟩⟩
theorem fdX5_ok : ∀ idx ci k, lk fdX5 idx = some (ci, k) → FldOk RX5 idx ci k := fun _ _ _ h => fdX5_all _ (lk_in h)
def fdX6 : List (Nat × Nat × Nat) := [(9, 6, 0), (15, 6, 1), (18, 6, 2), (21, 6, 3), (24, 6, 4), (27, 6, 5), (46, 6, 6), (31, 6, 7), (34, 6, 8), (37, 6, 9), (40, 6, 10), (43, 6, 11)]
theorem fdX6_11 : FldOk RX6 43 6 11 := ⟨RX6, TX6, 12, rfl, Nat.le_of_ble_eq_true rfl, wfX6_43⟩
theorem fdX6_10 : FldOk RX6 40 6 10 := ⟨RX6, TX6, 12, rfl, Nat.le_of_ble_eq_true rfl, wfX6_40⟩
theorem fdX6_9 : FldOk RX6 37 6 9 := ⟨RX6, TX6, 12, rfl, Nat.le_of_ble_eq_true rfl, wfX6_37⟩
theorem fdX6_8 : FldOk RX6 34 6 8 := ⟨RX6, TX6, 12, rfl, Nat.le_of_ble_eq_true rfl, wfX6_34⟩
theorem fdX6_7 : FldOk RX6 31 6 7 := ⟨RX6, TX6, 12, rfl, Nat.le_of_ble_eq_true rfl, wfX6_31⟩
theorem fdX6_6 : FldOk RX6 46 6 6 := ⟨RX6, TX6, 12, rfl, Nat.le_of_ble_eq_true rfl, wfX6_46⟩
theorem fdX6_5 : FldOk RX6 27 6 5 := ⟨RX6, TX6, 12, rfl, Nat.le_of_ble_eq_true rfl, wfX6_27⟩
theorem fdX6_4 : FldOk RX6 24 6 4 := ⟨RX6, TX6, 12, rfl, Nat.le_of_ble_eq_true rfl, wfX6_24⟩
theorem fdX6_3 : FldOk RX6 21 6 3 := ⟨RX6, TX6, 12, rfl, Nat.le_of_ble_eq_true rfl, wfX6_21⟩
theorem fdX6_2 : FldOk RX6 18 6 2 := ⟨RX6, TX6, 12, rfl, Nat.le_of_ble_eq_true rfl, wfX6_18⟩
theorem fdX6_1 : FldOk RX6 15 6 1 := ⟨RX6, TX6, 12, rfl, Nat.le_of_ble_eq_true rfl, wfX6_15⟩
theorem fdX6_0 : FldOk RX6 9 6 0 := ⟨RX6, TX6, 12, rfl, Nat.le_of_ble_eq_true rfl, wfX6_9⟩
theorem fdX6_all : ∀ q ∈ fdX6, FldOk RX6 q.1 q.2.1 q.2.2 := List.forall_mem_cons.mpr ⟨fdX6_0, List.forall_mem_cons.mpr ⟨fdX6_1, List.forall_mem_cons.mpr ⟨fdX6_2, List.forall_mem_cons.mpr ⟨fdX6_3, List.forall_mem_cons.mpr ⟨fdX6_4, List.forall_mem_cons.mpr ⟨fdX6_5, List.forall_mem_cons.mpr ⟨fdX6_6, List.forall_mem_cons.mpr ⟨fdX6_7, List.forall_mem_cons.mpr ⟨fdX6_8, List.forall_mem_cons.mpr ⟨fdX6_9, List.forall_mem_cons.mpr ⟨fdX6_10, List.forall_mem_cons.mpr ⟨fdX6_11, fun _ h => absurd h List.not_mem_nil⟩⟩⟩⟩⟩⟩⟩⟩⟩⟩⟩⟩
theorem fdX6_ok : ∀ idx ci k, lk fdX6 idx = some (ci, k) → FldOk RX6 idx ci k := fun _ _ _ h => fdX6_all _ (lk_in h)
def fdX7 : List (Nat × Nat × Nat) := [(9, 7, 0), (15, 7, 1)]
theorem fdX7_1 : FldOk RX7 15 7 1 := ⟨RX7, TX7, 2, rfl, Nat.le_of_ble_eq_true rfl, wfX7_15⟩
theorem fdX7_0 : FldOk RX7 9 7 0 := ⟨RX7, TX7, 2, rfl, Nat.le_of_ble_eq_true rfl, wfX7_9⟩
theorem fdX7_all : ∀ q ∈ fdX7, FldOk RX7 q.1 q.2.1 q.2.2 := List.forall_mem_cons.mpr ⟨fdX7_0, List.forall_mem_cons.mpr ⟨fdX7_1, fun _ h => absurd h List.not_mem_nil⟩⟩
theorem fdX7_ok : ∀ idx ci k, lk fdX7 idx = some (ci, k) → FldOk RX7 idx ci k := fun _ _ _ h => fdX7_all _ (lk_in h)
def fdX8 : List (Nat × Nat × Nat) := [(102, 7, 1), (127, 6, 5), (108, 0, 0), (124, 0, 1), (162, 0, 2), (137, 0, 3), (140, 0, 4), (143, 0, 5), (146, 0, 6), (149, 0, 7), (300, 0, 8), (303, 0, 9), (364, 0, 10), (357, 0, 11), (363, 0, 12), (369, 0, 13), (372, 0, 14), (280, 5, 0), (283, 5, 1), (264, 5, 2), (394, 5, 3), (331, 4, 0), (360, 4, 1), (188, 3, 0), (194, 3, 1), (341, 3, 2), (187, 3, 3), (395, 3, 4), (236, 1, 0), (239, 1, 1), (242, 1, 2), (249, 1, 3), (252, 1, 4), (235, 1, 5), (396, 1, 6), (310, 2, 0), (426, 2, 1), (12, 8, 0), (21, 8, 1), (28, 8, 2), (32, 8, 3), (38, 8, 4), (42, 8, 5), (50, 8, 6), (54, 8, 7), (60, 8, 8), (64, 8, 9), (67, 8, 10), (73, 8, 11), (80, 8, 12), (84, 8, 13), (87, 8, 14), (91, 8, 15), (94, 8, 16), (98, 8, 17)]
theorem fdX8_54 : FldOk RX8 98 8 17 := ⟨RX8, TX8, 18, rfl, Nat.le_of_ble_eq_true rfl, wfX8_98⟩
theorem fdX8_53 : FldOk RX8 94 8 16 := ⟨RX8, TX8, 18, rfl, Nat.le_of_ble_eq_true rfl, wfX8_94⟩
theorem fdX8_52 : FldOk RX8 91 8 15 := ⟨RX8, TX8, 18, rfl, Nat.le_of_ble_eq_true rfl, wfX8_91⟩
theorem fdX8_51 : FldOk RX8 87 8 14 := ⟨RX8, TX8, 18, rfl, Nat.le_of_ble_eq_true rfl, wfX8_87⟩
theorem fdX8_50 : FldOk RX8 84 8 13 := ⟨RX8, TX8, 18, rfl, Nat.le_of_ble_eq_true rfl, wfX8_84⟩
theorem fdX8_49 : FldOk RX8 80 8 12 := ⟨RX8, TX8, 18, rfl, Nat.le_of_ble_eq_true rfl, wfX8_80⟩
theorem fdX8_48 : FldOk RX8 73 8 11 := ⟨RX8, TX8, 18, rfl, Nat.le_of_ble_eq_true rfl, wfX8_73⟩
theorem fdX8_47 : FldOk RX8 67 8 10 := ⟨RX8, TX8, 18, rfl, Nat.le_of_ble_eq_true rfl, wfX8_67⟩
theorem fdX8_46 : FldOk RX8 64 8 9 := ⟨RX8, TX8, 18, rfl, Nat.le_of_ble_eq_true rfl, wfX8_64⟩
theorem fdX8_45 : FldOk RX8 60 8 8 := ⟨RX8, TX8, 18, rfl, Nat.le_of_ble_eq_true rfl, wfX8_60⟩
theorem fdX8_44 : FldOk RX8 54 8 7 := ⟨RX8, TX8, 18, rfl, Nat.le_of_ble_eq_true rfl, wfX8_54⟩
theorem fdX8_43 : FldOk RX8 50 8 6 := ⟨RX8, TX8, 18, rfl, Nat.le_of_ble_eq_true rfl, wfX8_50⟩
theorem fdX8_42 : FldOk RX8 42 8 5 := ⟨RX8, TX8, 18, rfl, Nat.le_of_ble_eq_true rfl, wfX8_42⟩
theorem fdX8_41 : FldOk RX8 38 8 4 := ⟨RX8, TX8, 18, rfl, Nat.le_of_ble_eq_true rfl, wfX8_38⟩
theorem fdX8_40 : FldOk RX8 32 8 3 := ⟨RX8, TX8, 18, rfl, Nat.le_of_ble_eq_true rfl, wfX8_32⟩
theorem fdX8_39 : FldOk RX8 28 8 2 := ⟨RX8, TX8, 18, rfl, Nat.le_of_ble_eq_true rfl, wfX8_28⟩
theorem fdX8_38 : FldOk RX8 21 8 1 := ⟨RX8, TX8, 18, rfl, Nat.le_of_ble_eq_true rfl, wfX8_21⟩
theorem fdX8_37 : FldOk RX8 12 8 0 := ⟨RX8, TX8, 18, rfl, Nat.le_of_ble_eq_true rfl, wfX8_12⟩
theorem fdX8_36 : FldOk RX8 426 2 1 := ⟨RX2, TX2, 4, rfl, Nat.le_of_ble_eq_true rfl, wfX8_426⟩
theorem fdX8_35 : FldOk RX8 310 2 0 := ⟨RX2, TX2, 4, rfl, Nat.le_of_ble_eq_true rfl, wfX8_310⟩
theorem fdX8_34 : FldOk RX8 396 1 6 := ⟨RX1, TX1, 13, rfl, Nat.le_of_ble_eq_true rfl, wfX8_396⟩
theorem fdX8_33 : FldOk RX8 235 1 5 := ⟨RX1, TX1, 13, rfl, Nat.le_of_ble_eq_true rfl, wfX8_235⟩
theorem fdX8_32 : FldOk RX8 252 1 4 := ⟨RX1, TX1, 13, rfl, Nat.le_of_ble_eq_true rfl, wfX8_252⟩
theorem fdX8_31 : FldOk RX8 249 1 3 := ⟨RX1, TX1, 13, rfl, Nat.le_of_ble_eq_true rfl, wfX8_249⟩
theorem fdX8_30 : FldOk RX8 242 1 2 := ⟨RX1, TX1, 13, rfl, Nat.le_of_ble_eq_true rfl, wfX8_242⟩
theorem fdX8_29 : FldOk RX8 239 1 1 := ⟨RX1, TX1, 13, rfl, Nat.le_of_ble_eq_true rfl, wfX8_239⟩
theorem fdX8_28 : FldOk RX8 236 1 0 := ⟨RX1, TX1, 13, rfl, Nat.le_of_ble_eq_true rfl, wfX8_236⟩
theorem fdX8_27 : FldOk RX8 395 3 4 := ⟨RX3, TX3, 9, rfl, Nat.le_of_ble_eq_true rfl, wfX8_395⟩
theorem fdX8_26 : FldOk RX8 187 3 3 := ⟨RX3, TX3, 9, rfl, Nat.le_of_ble_eq_true rfl, wfX8_187⟩
theorem fdX8_25 : FldOk RX8 341 3 2 := ⟨RX3, TX3, 9, rfl, Nat.le_of_ble_eq_true rfl, wfX8_341⟩
theorem fdX8_24 : FldOk RX8 194 3 1 := ⟨RX3, TX3, 9, rfl, Nat.le_of_ble_eq_true rfl, wfX8_194⟩
theorem fdX8_23 : FldOk RX8 188 3 0 := ⟨RX3, TX3, 9, rfl, Nat.le_of_ble_eq_true rfl, wfX8_188⟩
theorem fdX8_22 : FldOk RX8 360 4 1 := ⟨RX4, TX4, 5, rfl, Nat.le_of_ble_eq_true rfl, wfX8_360⟩
theorem fdX8_21 : FldOk RX8 331 4 0 := ⟨RX4, TX4, 5, rfl, Nat.le_of_ble_eq_true rfl, wfX8_331⟩
theorem fdX8_20 : FldOk RX8 394 5 3 := ⟨RX5, TX5, 5, rfl, Nat.le_of_ble_eq_true rfl, wfX8_394⟩
theorem fdX8_19 : FldOk RX8 264 5 2 := ⟨RX5, TX5, 5, rfl, Nat.le_of_ble_eq_true rfl, wfX8_264⟩
theorem fdX8_18 : FldOk RX8 283 5 1 := ⟨RX5, TX5, 5, rfl, Nat.le_of_ble_eq_true rfl, wfX8_283⟩
theorem fdX8_17 : FldOk RX8 280 5 0 := ⟨RX5, TX5, 5, rfl, Nat.le_of_ble_eq_true rfl, wfX8_280⟩
theorem fdX8_16 : FldOk RX8 372 0 14 := ⟨RX0, TX0, 15, rfl, Nat.le_of_ble_eq_true rfl, wfX8_372⟩
theorem fdX8_15 : FldOk RX8 369 0 13 := ⟨RX0, TX0, 15, rfl, Nat.le_of_ble_eq_true rfl, wfX8_369⟩
theorem fdX8_14 : FldOk RX8 363 0 12 := ⟨RX0, TX0, 15, rfl, Nat.le_of_ble_eq_true rfl, wfX8_363⟩
theorem fdX8_13 : FldOk RX8 357 0 11 := ⟨RX0, TX0, 15, rfl, Nat.le_of_ble_eq_true rfl, wfX8_357⟩
theorem fdX8_12 : FldOk RX8 364 0 10 := ⟨RX0, TX0, 15, rfl, Nat.le_of_ble_eq_true rfl, wfX8_364⟩
theorem fdX8_11 : FldOk RX8 303 0 9 := ⟨RX0, TX0, 15, rfl, Nat.le_of_ble_eq_true rfl, wfX8_303⟩
theorem fdX8_10 : FldOk RX8 300 0 8 := ⟨RX0, TX0, 15, rfl, Nat.le_of_ble_eq_true rfl, wfX8_300⟩
theorem fdX8_9 : FldOk RX8 149 0 7 := ⟨RX0, TX0, 15, rfl, Nat.le_of_ble_eq_true rfl, wfX8_149⟩
theorem fdX8_8 : FldOk RX8 146 0 6 := ⟨RX0, TX0, 15, rfl, Nat.le_of_ble_eq_true rfl, wfX8_146⟩
theorem fdX8_7 : FldOk RX8 143 0 5 := ⟨RX0, TX0, 15, rfl, Nat.le_of_ble_eq_true rfl, wfX8_143⟩
theorem fdX8_6 : FldOk RX8 140 0 4 := ⟨RX0, TX0, 15, rfl, Nat.le_of_ble_eq_true rfl, wfX8_140⟩
theorem fdX8_5 : FldOk RX8 137 0 3 := ⟨RX0, TX0, 15, rfl, Nat.le_of_ble_eq_true rfl, wfX8_137⟩
theorem fdX8_4 : FldOk RX8 162 0 2 := ⟨RX0, TX0, 15, rfl, Nat.le_of_ble_eq_true rfl, wfX8_162⟩
theorem fdX8_3 : FldOk RX8 124 0 1 := ⟨RX0, TX0, 15, rfl, Nat.le_of_ble_eq_true rfl, wfX8_124⟩
theorem fdX8_2 : FldOk RX8 108 0 0 := ⟨RX0, TX0, 15, rfl, Nat.le_of_ble_eq_true rfl, wfX8_108⟩
theorem fdX8_1 : FldOk RX8 127 6 5 := ⟨RX6, TX6, 12, rfl, Nat.le_of_ble_eq_true rfl, wfX8_127⟩
theorem fdX8_0 : FldOk RX8 102 7 1 := ⟨RX7, TX7, 2, rfl, Nat.le_of_ble_eq_true rfl, wfX8_102⟩
theorem fdX8_all : ∀ q ∈ fdX8, FldOk RX8 q.1 q.2.1 q.2.2 := List.forall_mem_cons.mpr ⟨fdX8_0, List.forall_mem_cons.mpr ⟨fdX8_1, List.forall_mem_cons.mpr ⟨fdX8_2, List.forall_mem_cons.mpr ⟨fdX8_3, List.forall_mem_cons.mpr ⟨fdX8_4, List.forall_mem_cons.mpr ⟨fdX8_5, List.forall_mem_cons.mpr ⟨fdX8_6, List.forall_mem_cons.mpr ⟨fdX8_7, List.forall_mem_cons.mpr ⟨fdX8_8, List.forall_mem_cons.mpr ⟨fdX8_9, List.forall_mem_cons.mpr ⟨fdX8_10, List.forall_mem_cons.mpr ⟨fdX8_11, List.forall_mem_cons.mpr ⟨fdX8_12, List.forall_mem_cons.mpr ⟨fdX8_13, List.forall_mem_cons.mpr ⟨fdX8_14, List.forall_mem_cons.mpr ⟨fdX8_15, List.forall_mem_cons.mpr ⟨fdX8_16, List.forall_mem_cons.mpr ⟨fdX8_17, List.forall_mem_cons.mpr ⟨fdX8_18, List.forall_mem_cons.mpr ⟨fdX8_19, List.forall_mem_cons.mpr ⟨fdX8_20, List.forall_mem_cons.mpr ⟨fdX8_21, List.forall_mem_cons.mpr ⟨fdX8_22, List.forall_mem_cons.mpr ⟨fdX8_23, List.forall_mem_cons.mpr ⟨fdX8_24, List.forall_mem_cons.mpr ⟨fdX8_25, List.forall_mem_cons.mpr ⟨fdX8_26, List.forall_mem_cons.mpr ⟨fdX8_27, List.forall_mem_cons.mpr ⟨fdX8_28, List.forall_mem_cons.mpr ⟨fdX8_29, List.forall_mem_cons.mpr ⟨fdX8_30, List.forall_mem_cons.mpr ⟨fdX8_31, List.forall_mem_cons.mpr ⟨fdX8_32, List.forall_mem_cons.mpr ⟨fdX8_33, List.forall_mem_cons.mpr ⟨fdX8_34, List.forall_mem_cons.mpr ⟨fdX8_35, List.forall_mem_cons.mpr ⟨fdX8_36, List.forall_mem_cons.mpr ⟨fdX8_37, List.forall_mem_cons.mpr ⟨fdX8_38, List.forall_mem_cons.mpr ⟨fdX8_39, List.forall_mem_cons.mpr ⟨fdX8_40, List.forall_mem_cons.mpr ⟨fdX8_41, List.forall_mem_cons.mpr ⟨fdX8_42, List.forall_mem_cons.mpr ⟨fdX8_43, List.forall_mem_cons.mpr ⟨fdX8_44, List.forall_mem_cons.mpr ⟨fdX8_45, List.forall_mem_cons.mpr ⟨fdX8_46, List.forall_mem_cons.mpr ⟨fdX8_47, List.forall_mem_cons.mpr ⟨fdX8_48, List.forall_mem_cons.mpr ⟨fdX8_49, List.forall_mem_cons.mpr ⟨fdX8_50, List.forall_mem_cons.mpr ⟨fdX8_51, List.forall_mem_cons.mpr ⟨fdX8_52, List.forall_mem_cons.mpr ⟨fdX8_53, List.forall_mem_cons.mpr ⟨fdX8_54, fun _ h => absurd h List.not_mem_nil⟩⟩⟩⟩⟩⟩⟩⟩⟩⟩⟩⟩⟩⟩⟩⟩⟩⟩⟩⟩⟩⟩⟩⟩⟩⟩⟩⟩⟩⟩⟩⟩⟩⟩⟩⟩⟩⟩⟩⟩⟩⟩⟩⟩⟩⟩⟩⟩⟩⟩⟩⟩⟩⟩⟩
theorem fdX8_ok : ∀ idx ci k, lk fdX8 idx = some (ci, k) → FldOk RX8 idx ci k := fun _ _ _ h => fdX8_all _ (lk_in h)
def fdX9 : List (Nat × Nat × Nat) := [(109, 9, 0), (7, 9, 1), (13, 9, 2), (16, 9, 3), (20, 9, 4), (367, 9, 5), (23, 9, 6), (116, 9, 7), (122, 9, 8), (119, 9, 9), (26, 9, 10), (30, 9, 11), (146, 9, 12), (33, 9, 13), (36, 9, 14), (39, 9, 15), (241, 9, 16), (42, 9, 17), (244, 9, 18), (45, 9, 19), (48, 9, 20), (52, 9, 21), (55, 9, 22), (58, 9, 23), (247, 9, 24), (61, 9, 25), (64, 9, 26), (67, 9, 27), (169, 9, 28), (70, 9, 29), (73, 9, 30), (76, 9, 31), (79, 9, 32), (82, 9, 33), (85, 9, 34), (296, 9, 35), (88, 9, 36), (287, 9, 37), (91, 9, 38), (94, 9, 39), (97, 9, 40), (100, 9, 41), (199, 9, 42), (318, 9, 43), (321, 9, 44), (324, 9, 45), (103, 9, 46), (106, 9, 47)]
theorem fdX9_47 : FldOk RX9 106 9 47 := ⟨RX9, TX9, 48, rfl, Nat.le_of_ble_eq_true rfl, wfX9_106⟩
theorem fdX9_46 : FldOk RX9 103 9 46 := ⟨RX9, TX9, 48, rfl, Nat.le_of_ble_eq_true rfl, wfX9_103⟩
theorem fdX9_45 : FldOk RX9 324 9 45 := ⟨RX9, TX9, 48, rfl, Nat.le_of_ble_eq_true rfl, wfX9_324⟩
theorem fdX9_44 : FldOk RX9 321 9 44 := ⟨RX9, TX9, 48, rfl, Nat.le_of_ble_eq_true rfl, wfX9_321⟩
theorem fdX9_43 : FldOk RX9 318 9 43 := ⟨RX9, TX9, 48, rfl, Nat.le_of_ble_eq_true rfl, wfX9_318⟩
theorem fdX9_42 : FldOk RX9 199 9 42 := ⟨RX9, TX9, 48, rfl, Nat.le_of_ble_eq_true rfl, wfX9_199⟩
theorem fdX9_41 : FldOk RX9 100 9 41 := ⟨RX9, TX9, 48, rfl, Nat.le_of_ble_eq_true rfl, wfX9_100⟩
theorem fdX9_40 : FldOk RX9 97 9 40 := ⟨RX9, TX9, 48, rfl, Nat.le_of_ble_eq_true rfl, wfX9_97⟩
theorem fdX9_39 : FldOk RX9 94 9 39 := ⟨RX9, TX9, 48, rfl, Nat.le_of_ble_eq_true rfl, wfX9_94⟩
theorem fdX9_38 : FldOk RX9 91 9 38 := ⟨RX9, TX9, 48, rfl, Nat.le_of_ble_eq_true rfl, wfX9_91⟩
theorem fdX9_37 : FldOk RX9 287 9 37 := ⟨RX9, TX9, 48, rfl, Nat.le_of_ble_eq_true rfl, wfX9_287⟩
theorem fdX9_36 : FldOk RX9 88 9 36 := ⟨RX9, TX9, 48, rfl, Nat.le_of_ble_eq_true rfl, wfX9_88⟩
theorem fdX9_35 : FldOk RX9 296 9 35 := ⟨RX9, TX9, 48, rfl, Nat.le_of_ble_eq_true rfl, wfX9_296⟩
theorem fdX9_34 : FldOk RX9 85 9 34 := ⟨RX9, TX9, 48, rfl, Nat.le_of_ble_eq_true rfl, wfX9_85⟩
theorem fdX9_33 : FldOk RX9 82 9 33 := ⟨RX9, TX9, 48, rfl, Nat.le_of_ble_eq_true rfl, wfX9_82⟩
theorem fdX9_32 : FldOk RX9 79 9 32 := ⟨RX9, TX9, 48, rfl, Nat.le_of_ble_eq_true rfl, wfX9_79⟩
theorem fdX9_31 : FldOk RX9 76 9 31 := ⟨RX9, TX9, 48, rfl, Nat.le_of_ble_eq_true rfl, wfX9_76⟩
theorem fdX9_30 : FldOk RX9 73 9 30 := ⟨RX9, TX9, 48, rfl, Nat.le_of_ble_eq_true rfl, wfX9_73⟩
theorem fdX9_29 : FldOk RX9 70 9 29 := ⟨RX9, TX9, 48, rfl, Nat.le_of_ble_eq_true rfl, wfX9_70⟩
theorem fdX9_28 : FldOk RX9 169 9 28 := ⟨RX9, TX9, 48, rfl, Nat.le_of_ble_eq_true rfl, wfX9_169⟩
theorem fdX9_27 : FldOk RX9 67 9 27 := ⟨RX9, TX9, 48, rfl, Nat.le_of_ble_eq_true rfl, wfX9_67⟩
theorem fdX9_26 : FldOk RX9 64 9 26 := ⟨RX9, TX9, 48, rfl, Nat.le_of_ble_eq_true rfl, wfX9_64⟩
theorem fdX9_25 : FldOk RX9 61 9 25 := ⟨RX9, TX9, 48, rfl, Nat.le_of_ble_eq_true rfl, wfX9_61⟩
theorem fdX9_24 : FldOk RX9 247 9 24 := ⟨RX9, TX9, 48, rfl, Nat.le_of_ble_eq_true rfl, wfX9_247⟩
theorem fdX9_23 : FldOk RX9 58 9 23 := ⟨RX9, TX9, 48, rfl, Nat.le_of_ble_eq_true rfl, wfX9_58⟩
theorem fdX9_22 : FldOk RX9 55 9 22 := ⟨RX9, TX9, 48, rfl, Nat.le_of_ble_eq_true rfl, wfX9_55⟩
theorem fdX9_21 : FldOk RX9 52 9 21 := ⟨RX9, TX9, 48, rfl, Nat.le_of_ble_eq_true rfl, wfX9_52⟩
theorem fdX9_20 : FldOk RX9 48 9 20 := ⟨RX9, TX9, 48, rfl, Nat.le_of_ble_eq_true rfl, wfX9_48⟩
theorem fdX9_19 : FldOk RX9 45 9 19 := ⟨RX9, TX9, 48, rfl, Nat.le_of_ble_eq_true rfl, wfX9_45⟩
theorem fdX9_18 : FldOk RX9 244 9 18 := ⟨RX9, TX9, 48, rfl, Nat.le_of_ble_eq_true rfl, wfX9_244⟩
theorem fdX9_17 : FldOk RX9 42 9 17 := ⟨RX9, TX9, 48, rfl, Nat.le_of_ble_eq_true rfl, wfX9_42⟩
theorem fdX9_16 : FldOk RX9 241 9 16 := ⟨RX9, TX9, 48, rfl, Nat.le_of_ble_eq_true rfl, wfX9_241⟩
theorem fdX9_15 : FldOk RX9 39 9 15 := ⟨RX9, TX9, 48, rfl, Nat.le_of_ble_eq_true rfl, wfX9_39⟩
theorem fdX9_14 : FldOk RX9 36 9 14 := ⟨RX9, TX9, 48, rfl, Nat.le_of_ble_eq_true rfl, wfX9_36⟩
theorem fdX9_13 : FldOk RX9 33 9 13 := ⟨RX9, TX9, 48, rfl, Nat.le_of_ble_eq_true rfl, wfX9_33⟩
theorem fdX9_12 : FldOk RX9 146 9 12 := ⟨RX9, TX9, 48, rfl, Nat.le_of_ble_eq_true rfl, wfX9_146⟩
theorem fdX9_11 : FldOk RX9 30 9 11 := ⟨RX9, TX9, 48, rfl, Nat.le_of_ble_eq_true rfl, wfX9_30⟩
theorem fdX9_10 : FldOk RX9 26 9 10 := ⟨RX9, TX9, 48, rfl, Nat.le_of_ble_eq_true rfl, wfX9_26⟩
theorem fdX9_9 : FldOk RX9 119 9 9 := ⟨RX9, TX9, 48, rfl, Nat.le_of_ble_eq_true rfl, wfX9_119⟩
theorem fdX9_8 : FldOk RX9 122 9 8 := ⟨RX9, TX9, 48, rfl, Nat.le_of_ble_eq_true rfl, wfX9_122⟩
theorem fdX9_7 : FldOk RX9 116 9 7 := ⟨RX9, TX9, 48, rfl, Nat.le_of_ble_eq_true rfl, wfX9_116⟩
theorem fdX9_6 : FldOk RX9 23 9 6 := ⟨RX9, TX9, 48, rfl, Nat.le_of_ble_eq_true rfl, wfX9_23⟩
theorem fdX9_5 : FldOk RX9 367 9 5 := ⟨RX9, TX9, 48, rfl, Nat.le_of_ble_eq_true rfl, wfX9_367⟩
theorem fdX9_4 : FldOk RX9 20 9 4 := ⟨RX9, TX9, 48, rfl, Nat.le_of_ble_eq_true rfl, wfX9_20⟩
theorem fdX9_3 : FldOk RX9 16 9 3 := ⟨RX9, TX9, 48, rfl, Nat.le_of_ble_eq_true rfl, wfX9_16⟩
theorem fdX9_2 : FldOk RX9 13 9 2 := ⟨RX9, TX9, 48, rfl, Nat.le_of_ble_eq_true rfl, wfX9_13⟩
theorem fdX9_1 : FldOk RX9 7 9 1 := ⟨RX9, TX9, 48, rfl, Nat.le_of_ble_eq_true rfl, wfX9_7⟩
theorem fdX9_0 : FldOk RX9 109 9 0 := ⟨RX9, TX9, 48, rfl, Nat.le_of_ble_eq_true rfl, wfX9_109⟩
theorem fdX9_all : ∀ q ∈ fdX9, FldOk RX9 q.1 q.2.1 q.2.2 := List.forall_mem_cons.mpr ⟨fdX9_0, List.forall_mem_cons.mpr ⟨fdX9_1, List.forall_mem_cons.mpr ⟨fdX9_2, List.forall_mem_cons.mpr ⟨fdX9_3, List.forall_mem_cons.mpr ⟨fdX9_4, List.forall_mem_cons.mpr ⟨fdX9_5, List.forall_mem_cons.mpr ⟨fdX9_6, List.forall_mem_cons.mpr ⟨fdX9_7, List.forall_mem_cons.mpr ⟨fdX9_8, List.forall_mem_cons.mpr ⟨fdX9_9, List.forall_mem_cons.mpr ⟨fdX9_10, List.forall_mem_cons.mpr ⟨fdX9_11, List.forall_mem_cons.mpr ⟨fdX9_12, List.forall_mem_cons.mpr ⟨fdX9_13, List.forall_mem_cons.mpr ⟨fdX9_14, List.forall_mem_cons.mpr ⟨fdX9_15, List.forall_mem_cons.mpr ⟨fdX9_16, List.forall_mem_cons.mpr ⟨fdX9_17, List.forall_mem_cons.mpr ⟨fdX9_18, List.forall_mem_cons.mpr ⟨fdX9_19, List.forall_mem_cons.mpr ⟨fdX9_20, List.forall_mem_cons.mpr ⟨fdX9_21, List.forall_mem_cons.mpr ⟨fdX9_22, List.forall_mem_cons.mpr ⟨fdX9_23, List.forall_mem_cons.mpr ⟨fdX9_24, List.forall_mem_cons.mpr ⟨fdX9_25, List.forall_mem_cons.mpr ⟨fdX9_26, List.forall_mem_cons.mpr ⟨fdX9_27, List.forall_mem_cons.mpr ⟨fdX9_28, List.forall_mem_cons.mpr ⟨fdX9_29, List.forall_mem_cons.mpr ⟨fdX9_30, List.forall_mem_cons.mpr ⟨fdX9_31, List.forall_mem_cons.mpr ⟨fdX9_32, List.forall_mem_cons.mpr ⟨fdX9_33, List.forall_mem_cons.mpr ⟨fdX9_34, List.forall_mem_cons.mpr ⟨fdX9_35, List.forall_mem_cons.mpr ⟨fdX9_36, List.forall_mem_cons.mpr ⟨fdX9_37, List.forall_mem_cons.mpr ⟨fdX9_38, List.forall_mem_cons.mpr ⟨fdX9_39, List.forall_mem_cons.mpr ⟨fdX9_40, List.forall_mem_cons.mpr ⟨fdX9_41, List.forall_mem_cons.mpr ⟨fdX9_42, List.forall_mem_cons.mpr ⟨fdX9_43, List.forall_mem_cons.mpr ⟨fdX9_44, List.forall_mem_cons.mpr ⟨fdX9_45, List.forall_mem_cons.mpr ⟨fdX9_46, List.forall_mem_cons.mpr ⟨fdX9_47, fun _ h => absurd h List.not_mem_nil⟩⟩⟩⟩⟩⟩⟩⟩⟩⟩⟩⟩⟩⟩⟩⟩⟩⟩⟩⟩⟩⟩⟩⟩⟩⟩⟩⟩⟩⟩⟩⟩⟩⟩⟩⟩⟩⟩⟩⟩⟩⟩⟩⟩⟩⟩⟩⟩
theorem fdX9_ok : ∀ idx ci k, lk fdX9 idx = some (ci, k) → FldOk RX9 idx ci k := fun _ _ _ h => fdX9_all _ (lk_in h)
