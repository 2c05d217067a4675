/-! calls into another world; tellMeetings and findOpen, by the class -/
theorem mg_out {α : Type} {sel : List Nat} {n c : Nat} {X X2 : Nat → α} (hc : c < n) (hs : c ∉ sel) : mg sel n X X2 c = X c := by
  unfold mg
  rw [if_pos hc, if_neg (by simpa using hs)]
theorem mg_in {α : Type} {sel : List Nat} {n c : Nat} {X X2 : Nat → α} (i : Nat) (hc : c < n) (hs : sel.contains c = true) (hi : sel.idxOf c = i) : mg sel n X X2 c = X2 i := by
  unfold mg
  rw [if_pos hc, if_pos hs, hi]
theorem mg_sb {α : Type} {sel : List Nat} {n c : Nat} {X : Nat → α} (hc : c < n) : mg sel n X (sb sel X) c = X c := by
  by_cases h : c ∈ sel
  · rw [mg_in (sel.idxOf c) hc (by simpa using h) rfl]
    unfold sb
    have h1 := List.idxOf_lt_length_of_mem h
    rw [List.getD_eq_getElem?_getD, List.getElem?_eq_getElem h1, Option.getD_some, List.getElem_idxOf h1]
  · exact mg_out hc h
theorem cS0_mk {Lc L2 : Ly} {sel : List Nat} {n : Nat} {X : HX} {Y : HY} {Q : Qt} {C : HX → HY → Prop} {X3 : HX} {Y3 : HY} (h : C (mg sel n X X3) (mg sel n Y Y3)) : cS0 Lc L2 sel n X Y Q C (.inl none) Lc X3 Y3 := ⟨rfl, Or.inl ⟨rfl, h⟩⟩
theorem cS1_mk {Lc L2 : Ly} {sel : List Nat} {n : Nat} {X : HX} {Y : HY} {Q : Qt} {C : Int32 → HX → HY → Prop} {X3 : HX} {Y3 : HY} {x : Int32} (h : C x (mg sel n X X3) (mg sel n Y Y3)) : cS1 Lc L2 sel n X Y Q C (.inl (some (.int x))) Lc X3 Y3 := ⟨rfl, Or.inl ⟨x, rfl, h⟩⟩
theorem cS2_mk {Lc L2 : Ly} {sel : List Nat} {n : Nat} {X : HX} {Y : HY} {Q : Qt} {C : Int64 → HX → HY → Prop} {X3 : HX} {Y3 : HY} {x : Int64} (h : C x (mg sel n X X3) (mg sel n Y Y3)) : cS2 Lc L2 sel n X Y Q C (.inl (some (.long x))) Lc X3 Y3 := ⟨rfl, Or.inl ⟨x, rfl, h⟩⟩
theorem L504_len : (LX5_0_4 ++ []).length = 16 := rfl
section TellC
variable {Q : Qt} {r : Ly} {X : HX} {Y : HY} {s : St} {F : Nat → Bool}
theorem X5_stateOf_504 {a b : Nat} (hI : SI s) (hB : BV 4 X s) (hR : RV 3 X s F (sN s)) (ha : a < 9) (hb : b < 9) (k : Q (.inl (some (.int (nI (kd s F a b))))) (LX5_0_4 ++ []) X Y) : tX5_stateOf [.ref 0, .ref 4, .int (nI a), .int (nI b)] (LX5_0_4 ++ []) X Y Q :=
  X5_stateOf_s (L' := [.inl (4, [.inr (some 13), .inl 0, .inl 0, .inr (some 14), .inr (some 15)]), .inr (1, 10), .inr (0, 10), .inr (1, 10 * 10)] ++ []) hI hB hR ha hb k
theorem X5_tell_s (hI : SI s) (hB : BV 4 X s) (hR : RV 3 X s F (sN s)) (hW : X 12 2 = nI 10) (k : ∀ X' Y', (∀ c, c < 16 → X' c = X c) → (∀ c, c < 16 → c ≠ 13 → Y' c = Y c) → (∀ i, i < 10 → Y' 13 i = lN (mt s F i)) → Q (.inl none) (LX5_0_4 ++ []) X' Y') : tX5_tellMeetings [.ref 0, .ref 4, .ref 12] (LX5_0_4 ++ []) X Y Q := by
  have g9 := hI.1
  have k2 : ∀ a b, kd s F a b ≤ 2 := fun a b => by
    unfold kd
    split
    · omega
    · rename_i j hj
      have := hI.2.2.1 j (rul_lt hj).1
      split <;> omega
  have H : ∀ n a X' Y' M, a + n = sG s → (∀ c, c < 16 → X' c = X c) → (∀ c, c < 16 → c ≠ 13 → Y' c = Y c) → (∀ i, i < 10 → Y' 13 i = lN (M i)) → mtP s F (bef a 0) M → hX5_tellMeetings_6 Q (nI a) X' Y' := by
    intro n
    induction n with
    | zero =>
      intro a X' Y' M ha f1 f2 hY hM
      apply hX5_tellMeetings_6_i
      rw [f1 4 (by omega), hB.1]
      simp (disch := omega) only [m_0, m_L0, m_lt, m_le, m_eq, m_neg, m_in, m_clamp, m_add, m_sub, m_pred, m_mul, m_l, m_i, m_Land, m_Lor, m_and, m_or, m_xor, m_Landn, m_andn, m_LshlP, m_shl, m_LbitP, m_bit, m_cmp0P, m_Lb0, m_Lb1, m_b0, m_b1, Nat.one_mul]
      refine ⟨fun _ => k X' Y' f1 f2 (fun i hi => ?_), fun h => by omega⟩
      rw [hY i hi, mtP_end hI hM (fun i j h1 h2 => ⟨h1, Or.inl (by omega)⟩) i]
    | succ n ih =>
      intro a X' Y' M ha f1 f2 hY hM
      apply hX5_tellMeetings_6_i
      rw [f1 4 (by omega), hB.1]
      simp (disch := omega) only [m_0, m_L0, m_lt, m_le, m_eq, m_neg, m_in, m_clamp, m_add, m_sub, m_pred, m_mul, m_l, m_i, m_Land, m_Lor, m_and, m_or, m_xor, m_Landn, m_andn, m_LshlP, m_shl, m_LbitP, m_bit, m_cmp0P, m_Lb0, m_Lb1, m_b0, m_b1, Nat.one_mul]
      refine ⟨fun h => by omega, fun _ => ?_⟩
      have G : ∀ m b X' Y' M, b + m = sG s → a < b → (∀ c, c < 16 → X' c = X c) → (∀ c, c < 16 → c ≠ 13 → Y' c = Y c) → (∀ i, i < 10 → Y' 13 i = lN (M i)) → mtP s F (bef a b) M → hX5_tellMeetings_19 Q (nI a) (nI b) X' Y' := by
        intro m
        induction m with
        | zero =>
          intro b X' Y' M hb hab f1 f2 hY hM
          apply hX5_tellMeetings_19_i
          rw [f1 4 (by omega), hB.1]
          simp (disch := omega) only [m_0, m_L0, m_lt, m_le, m_eq, m_neg, m_in, m_clamp, m_add, m_sub, m_pred, m_mul, m_l, m_i, m_Land, m_Lor, m_and, m_or, m_xor, m_Landn, m_andn, m_LshlP, m_shl, m_LbitP, m_bit, m_cmp0P, m_Lb0, m_Lb1, m_b0, m_b1, Nat.one_mul]
          refine ⟨fun _ => ih (a + 1) X' Y' M (by omega) f1 f2 hY (mtP_skip hM (fun i j _ h1 h2 => ⟨fun q => ⟨h1, by have := q.2; omega⟩, fun q => ⟨h1, by have := q.2; omega⟩⟩) (fun i j q => q.1) (fun i j q => q.1)), fun h => by omega⟩
        | succ m ihm =>
          intro b X' Y' M hb hab f1 f2 hY hM
          have hB' : BV 4 X' s := hB.of (fun c q1 q2 => f1 c (by omega))
          have hR' : RV 3 X' s F (sN s) := fun x y hx hy => by rw [f1 3 (by omega)]; exact hR x y hx hy
          apply hX5_tellMeetings_19_i
          rw [f1 4 (by omega), hB.1]
          simp (disch := omega) only [m_0, m_L0, m_lt, m_le, m_eq, m_neg, m_in, m_clamp, m_add, m_sub, m_pred, m_mul, m_l, m_i, m_Land, m_Lor, m_and, m_or, m_xor, m_Landn, m_andn, m_LshlP, m_shl, m_LbitP, m_bit, m_cmp0P, m_Lb0, m_Lb1, m_b0, m_b1, Nat.one_mul]
          refine ⟨fun h => by omega, fun _ => X5_stateOf_504 hI hB' hR' (by omega) (by omega) (cK1_mk ?_)⟩
          have := k2 a b
          simp (disch := omega) only [m_0, m_L0, m_lt, m_le, m_eq, m_neg, m_in, m_clamp, m_add, m_sub, m_pred, m_mul, m_l, m_i, m_Land, m_Lor, m_and, m_or, m_xor, m_Landn, m_andn, m_LshlP, m_shl, m_LbitP, m_bit, m_cmp0P, m_Lb0, m_Lb1, m_b0, m_b1, Nat.one_mul]
          refine ⟨fun h0 => ihm (b + 1) X' Y' M (by omega) (by omega) f1 f2 hY (mtP_skip hM (fun i j hk h1 h2 => ⟨fun q => ⟨h1, ?_⟩, fun q => ⟨h1, by have := q.2; omega⟩⟩) (fun i j q => q.1) (fun i j q => q.1)), fun h0 => ?_⟩
          · rcases q.2 with z | ⟨z1, z2⟩
            · exact Or.inl z
            · by_cases e : j = b
              · subst z1; subst e; exact absurd hk h0
              · exact Or.inr ⟨z1, by omega⟩
          · have h0 := Classical.not_not.mp h0
            refine X4_join_s (w := 10) (M := M) (by omega) (by show X' 12 2 = nI 10; rw [f1 12 (by omega)]; exact hW) (fun i hi => hY i hi) (by omega) (by omega) (by omega) (fun Y3 w1 w2 => cS0_mk ?_)
            rw [L504_len]
            refine ihm (b + 1) _ _ (jn M a b) (by omega) (by omega) (fun c hc => by rw [mg_sb hc]; exact f1 c hc) (fun c hc h13 => ?_) (fun i hi => ?_) (mtP_put hM (by omega) (by omega) g9 h0 (fun i j => ⟨fun q => ?_, fun q => ?_⟩))
            · by_cases q : c ∈ [12, 13, 14, 15]
              · simp only [List.mem_cons, List.not_mem_nil, or_false] at q
                rcases q with rfl | rfl | rfl | rfl
                · rw [mg_in 0 (by omega) rfl rfl, w1 0 (by omega)]; exact f2 12 (by omega) (by omega)
                · exact absurd rfl h13
                · rw [mg_in 2 (by omega) rfl rfl, w1 2 (by omega)]; exact f2 14 (by omega) (by omega)
                · rw [mg_in 3 (by omega) rfl rfl, w1 3 (by omega)]; exact f2 15 (by omega) (by omega)
              · rw [mg_out hc q]; exact f2 c hc h13
            · rw [mg_in 1 (by omega) rfl rfl]; exact w2 i hi
            · rcases q.2 with z | ⟨z1, z2⟩
              · exact Or.inl ⟨q.1, Or.inl z⟩
              · by_cases e : j = b
                · exact Or.inr ⟨z1, e⟩
                · exact Or.inl ⟨q.1, Or.inr ⟨z1, by omega⟩⟩
            · rcases q with q | ⟨rfl, rfl⟩
              · exact ⟨q.1, q.2.imp id (fun z => ⟨z.1, by omega⟩)⟩
              · exact ⟨by omega, Or.inr ⟨rfl, by omega⟩⟩
      exact G n (a + 1) X' Y' M (by omega) (by omega) f1 f2 hY (mtP_skip hM (fun i j _ h1 h2 => ⟨fun q => ⟨h1, by have := q.2; omega⟩, fun q => ⟨h1, by have := q.2; omega⟩⟩) (fun i j q => q.1) (fun i j q => q.1))
  apply tX5_tellMeetings_i
  refine X4_clear_s (w := 10) (by omega) (by show X 12 2 = nI 10; exact hW) (fun Y3 w1 w2 => cS0_mk ?_)
  rw [L504_len]
  refine H (sG s) 0 _ _ (fun _ => 0) (by omega) (fun c hc => mg_sb hc) (fun c hc h13 => ?_) (fun i hi => by rw [mg_in 1 (by omega) rfl rfl]; exact w2 i hi) ⟨fun i => by simp, fun i j => ⟨fun q => by simp [Eo] at q, fun q => ?_⟩⟩
  · by_cases q : c ∈ [12, 13, 14, 15]
    · simp only [List.mem_cons, List.not_mem_nil, or_false] at q
      rcases q with rfl | rfl | rfl | rfl
      · rw [mg_in 0 (by omega) rfl rfl, w1 0 (by omega)]; rfl
      · exact absurd rfl h13
      · rw [mg_in 2 (by omega) rfl rfl, w1 2 (by omega)]; rfl
      · rw [mg_in 3 (by omega) rfl rfl, w1 3 (by omega)]; rfl
    · exact mg_out hc q
  · obtain ⟨-, -, -, -, q | q⟩ := q
    · have := q.2; omega
    · have := q.2; omega
theorem X5_findOpen_s (hI : SI s) (hB : BV 4 X s) (hR : RV 3 X s F (sN s)) (k : ∀ X', (∀ c, c ≠ 1 → c ≠ 2 → c ≠ 0 → X' c = X c) → (∀ i, i ≠ 2 → X' 0 i = X 0 i) → X' 0 2 = nI (ops s F).length → OV X' 1 2 (ops s F) 8 → Q (.inl none) (LX5_0 ++ r) X' Y) : tX5_findOpen [.ref 0, .ref 4] (LX5_0 ++ r) X Y Q := by
  have g9 := hI.1
  have l36 := ops_len (F := F) hI
  have H : ∀ n a X' P, a + n = sG s → (∀ c, c ≠ 1 → c ≠ 2 → c ≠ 0 → X' c = X c) → (∀ i, i ≠ 2 → X' 0 i = X 0 i) → P ++ (remL (sG s) n).filter (fun p => kd s F p.1 p.2 == 2) = ops s F → X' 0 2 = nI P.length → OV X' 1 2 P 8 → hX5_findOpen_7 Q r (nI a) X' Y := by
    intro n
    induction n with
    | zero =>
      intro a X' P ha f1 f2 hP h42 hO
      apply hX5_findOpen_7_i
      rw [f1 4 (by omega) (by omega) (by omega), hB.1]
      simp (disch := omega) only [m_0, m_L0, m_lt, m_le, m_eq, m_neg, m_in, m_clamp, m_add, m_sub, m_pred, m_mul, m_l, m_i, m_Land, m_Lor, m_and, m_or, m_xor, m_Landn, m_andn, m_LshlP, m_shl, m_LbitP, m_bit, m_cmp0P, m_Lb0, m_Lb1, m_b0, m_b1, Nat.one_mul]
      simp only [remL, List.filter_nil, List.append_nil] at hP
      exact ⟨fun _ => k X' f1 f2 (by rw [h42, hP]) (hP ▸ hO), fun h => by omega⟩
    | succ n ih =>
      intro a X' P ha f1 f2 hP h42 hO
      apply hX5_findOpen_7_i
      rw [f1 4 (by omega) (by omega) (by omega), hB.1]
      simp (disch := omega) only [m_0, m_L0, m_lt, m_le, m_eq, m_neg, m_in, m_clamp, m_add, m_sub, m_pred, m_mul, m_l, m_i, m_Land, m_Lor, m_and, m_or, m_xor, m_Landn, m_andn, m_LshlP, m_shl, m_LbitP, m_bit, m_cmp0P, m_Lb0, m_Lb1, m_b0, m_b1, Nat.one_mul]
      refine ⟨fun h => by omega, fun _ => ?_⟩
      have ea : sG s - (n + 1) = a := by omega
      have eb : sG s - n = a + 1 := by omega
      rw [remL, ea, eb, List.filter_append, ← List.append_assoc] at hP
      have G : ∀ m b X' P, b + m = sG s → a < b → (∀ c, c ≠ 1 → c ≠ 2 → c ≠ 0 → X' c = X c) → (∀ i, i ≠ 2 → X' 0 i = X 0 i) → (P ++ (rowL a b m).filter (fun p => kd s F p.1 p.2 == 2)) ++ (remL (sG s) n).filter (fun p => kd s F p.1 p.2 == 2) = ops s F → X' 0 2 = nI P.length → OV X' 1 2 P 8 → hX5_findOpen_19 Q r (nI a) (nI b) X' Y := by
        intro m
        induction m with
        | zero =>
          intro b X' P hb hab f1 f2 hP h42 hO
          apply hX5_findOpen_19_i
          rw [f1 4 (by omega) (by omega) (by omega), hB.1]
          simp (disch := omega) only [m_0, m_L0, m_lt, m_le, m_eq, m_neg, m_in, m_clamp, m_add, m_sub, m_pred, m_mul, m_l, m_i, m_Land, m_Lor, m_and, m_or, m_xor, m_Landn, m_andn, m_LshlP, m_shl, m_LbitP, m_bit, m_cmp0P, m_Lb0, m_Lb1, m_b0, m_b1, Nat.one_mul]
          simp only [rowL, List.filter_nil, List.append_nil] at hP
          exact ⟨fun _ => ih (a + 1) X' P (by omega) f1 f2 hP h42 hO, fun h => by omega⟩
        | succ m ihm =>
          intro b X' P hb hab f1 f2 hP h42 hO
          have hB' : BV 4 X' s := hB.of (fun c q1 q2 => f1 c (by omega) (by omega) (by omega))
          have hR' : RV 3 X' s F (sN s) := fun x y hx hy => by rw [f1 3 (by omega) (by omega) (by omega)]; exact hR x y hx hy
          have k2 : kd s F a b ≤ 2 := by
            unfold kd
            split
            · omega
            · rename_i j hj
              have := hI.2.2.1 j (rul_lt hj).1
              split <;> omega
          have lP : P.length ≤ 36 := by
            have h9 := congrArg List.length hP
            simp only [List.length_append] at h9
            omega
          apply hX5_findOpen_19_i
          rw [f1 4 (by omega) (by omega) (by omega), hB.1]
          simp (disch := omega) only [m_0, m_L0, m_lt, m_le, m_eq, m_neg, m_in, m_clamp, m_add, m_sub, m_pred, m_mul, m_l, m_i, m_Land, m_Lor, m_and, m_or, m_xor, m_Landn, m_andn, m_LshlP, m_shl, m_LbitP, m_bit, m_cmp0P, m_Lb0, m_Lb1, m_b0, m_b1, Nat.one_mul]
          refine ⟨fun h => by omega, fun _ => X5_stateOf_s hI hB' hR' (by omega) (by omega) (cK1_mk ?_)⟩
          simp (disch := omega) only [m_0, m_L0, m_lt, m_le, m_eq, m_neg, m_in, m_clamp, m_add, m_sub, m_pred, m_mul, m_l, m_i, m_Land, m_Lor, m_and, m_or, m_xor, m_Landn, m_andn, m_LshlP, m_shl, m_LbitP, m_bit, m_cmp0P, m_Lb0, m_Lb1, m_b0, m_b1, Nat.one_mul, h42, up2_out, up2_same]
          refine ⟨fun h2 => ihm (b + 1) X' P (by omega) (by omega) f1 f2 (by rw [rowL, List.filter_cons_of_neg (by simpa using h2)] at hP; exact hP) h42 hO, fun h2 => ?_⟩
          have h2 := Classical.not_not.mp h2
          rw [rowL, List.filter_cons_of_pos (by simpa using h2)] at hP
          refine ⟨fun h8 => ihm (b + 1) _ (P ++ [(a, b)]) (by omega) (by omega) (fun c q1 q2 q3 => by rw [up2_row q3]; exact f1 c q1 q2 q3) (fun i hi => by rw [up2_idx hi]; exact f2 i hi) (by rw [List.append_assoc P]; exact hP) (by rw [up2_same]; simp) (OV_out (by omega) (by omega) (OV_long (by omega) hO)), fun h8 => ⟨by omega, by omega, ihm (b + 1) _ (P ++ [(a, b)]) (by omega) (by omega) (fun c q1 q2 q3 => by rw [up2_row q3, up2_row q2, up2_row q1]; exact f1 c q1 q2 q3) (fun i hi => by rw [up2_idx hi, up2_out (by omega), up2_out (by omega)]; exact f2 i hi) (by rw [List.append_assoc P]; exact hP) (by rw [up2_same]; simp) (OV_out (by omega) (by omega) (OV_put (by omega) hO))⟩⟩
      exact G n (a + 1) X' P (by omega) (by omega) f1 f2 hP h42 hO
  apply tX5_findOpen_i
  exact H (sG s) 0 _ [] (by omega) (fun c q1 q2 q3 => up2_row q3) (fun i hi => up2_idx hi) (by rw [List.nil_append]; rfl) (by rw [up2_same]; rfl) (fun k p h hp => by simp at hp)
end TellC
