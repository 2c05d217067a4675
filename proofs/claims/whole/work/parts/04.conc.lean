/-! THE PURE MACHINE'S WORLDS AS HEAPS: ad gives each cell its address, ca each array its class -/
def cv (ad : Nat → Nat) (v : Value) : Value := match v with
  | .ref a => .ref (ad a)
  | v => v
def cSk (ad : Nat → Nat) (X : Nat → Int32) (Y : Nat → Int64) (j : Nat) (s : Sk) : Value := match s with
  | .inl t => if t = 1 then .long (Y j) else .int (X j)
  | .inr o => va_rf (o.map ad)
def cC (t : Nat) (X : Nat → Int32) (Y : Nat → Int64) : (Nat → Int32) ⊕ (Nat → Int64) ⊕ (Nat → UInt32) ⊕ (Nat → UInt64) ⊕ (Nat → Option Nat) := if t = 1 then .inr (.inl Y) else .inl X
def cE (ad : Nat → Nat) (ca : Nat → ClassId) (X : HX) (Y : HY) (k : Nat) (s : Sh) : va_E := match s with
  | .inl (ci, sl) => .inr (ci, sl.mapIdx (fun j s => cSk ad (X k) (Y k) j s))
  | .inr (t, n) => .inl (ca k, n, cC t (X k) (Y k))
def cW (ad : Nat → Nat) (ca : Nat → ClassId) (L : Ly) (X : HX) (Y : HY) : va_W := L.mapIdx (fun k s => (ad k, cE ad ca X Y k s))
def cT1 (ca : Nat → ClassId) (k : Nat) (s : Sh) : List (ClassId × FieldType) := match s with
  | .inl _ => []
  | .inr (t, _) => [(ca k, tyT t)]
def cT (ca : Nat → ClassId) (L : Ly) : List (ClassId × FieldType) := (L.mapIdx (cT1 ca)).flatten
theorem cW_at {ad : Nat → Nat} {ca : Nat → ClassId} {L : Ly} {X : HX} {Y : HY} {k : Nat} {s : Sh} (h : L[k]? = some s) : (cW ad ca L X Y)[k]? = some (ad k, cE ad ca X Y k s) := by
  simp [cW, List.getElem?_mapIdx, h]
theorem cW_of {ad : Nat → Nat} {ca : Nat → ClassId} {L : Ly} {X : HX} {Y : HY} {k : Nat} {q : Nat × va_E} (h : (cW ad ca L X Y)[k]? = some q) : ∃ s, L[k]? = some s ∧ q = (ad k, cE ad ca X Y k s) := by
  simp only [cW, List.getElem?_mapIdx, Option.map_eq_some_iff] at h
  obtain ⟨s, h1, h2⟩ := h
  exact ⟨s, h1, h2.symm⟩
theorem cW_len {ad : Nat → Nat} {ca : Nat → ClassId} {L : Ly} {X : HX} {Y : HY} : (cW ad ca L X Y).length = L.length := by simp [cW]
theorem cT_at {ca : Nat → ClassId} {L : Ly} {k t n : Nat} (h : L[k]? = some (.inr (t, n))) : ∃ t0 : Nat, (cT ca L)[t0]? = some (ca k, tyT t) := by
  have h1 : (ca k, tyT t) ∈ cT ca L := by
    unfold cT
    rw [List.mem_flatten]
    refine ⟨[(ca k, tyT t)], ?_, List.mem_cons_self⟩
    rw [List.mem_iff_getElem?]
    exact ⟨k, by simp [List.getElem?_mapIdx, h, cT1]⟩
  exact List.mem_iff_getElem?.mp h1
theorem cT_in {ca : Nat → ClassId} {L : Ly} {q : ClassId × FieldType} (h : q ∈ cT ca L) : ∃ k t n, L[k]? = some (.inr (t, n)) ∧ q = (ca k, tyT t) := by
  unfold cT at h
  rw [List.mem_flatten] at h
  obtain ⟨l, h1, h2⟩ := h
  rw [List.mem_iff_getElem?] at h1
  obtain ⟨k, h1⟩ := h1
  simp only [List.getElem?_mapIdx, Option.map_eq_some_iff] at h1
  obtain ⟨s, h3, h4⟩ := h1
  subst h4
  cases s with
  | inl o => exact absurd h2 List.not_mem_nil
  | inr q2 =>
    obtain ⟨t, n⟩ := q2
    exact ⟨k, t, n, h3, List.mem_singleton.mp h2⟩
theorem va_K_of {D : va_G} {cl : List vw_C} {tys tys' : List (ClassId × FieldType)} {U : State} (h : va_K D cl tys U) (hs : ∀ q ∈ tys', q ∈ tys) : va_K D cl tys' U :=
  ⟨h.1, fun k q hk => by
    obtain ⟨j, hj⟩ := List.mem_iff_getElem?.mp (hs q (List.mem_of_getElem? hk))
    exact h.2 j q hj⟩
/-- locals -/
def lvOk (ad : Nat → Nat) (ls : Array Slot) (nL : Nat) (lv : Lv) : Prop := lv.length = nL ∧ ls.size = nL ∧ lv_wf ls ∧ ∀ i v, ldv lv i = some v → ls[i]? = some (.val (cv ad v))
def cL (ad : Nat → Nat) (lv : Lv) : List (Nat × Value) := (List.range lv.length).filterMap (fun i => (ldv lv i).map (fun v => (i, cv ad v)))
theorem ldv_lt {lv : Lv} {i : Nat} {v : Value} (h : ldv lv i = some v) : i < lv.length := by
  by_cases hi : i < lv.length
  · exact hi
  · simp [ldv, List.getElem?_eq_none (Nat.le_of_not_lt hi)] at h
theorem cL_in {ad : Nat → Nat} {lv : Lv} {i : Nat} {v : Value} (h : ldv lv i = some v) : (i, cv ad v) ∈ cL ad lv := by
  unfold cL
  rw [List.mem_filterMap]
  exact ⟨i, List.mem_range.mpr (ldv_lt h), by simp [h]⟩
theorem cL_of {ad : Nat → Nat} {lv : Lv} {q : Nat × Value} (h : q ∈ cL ad lv) : ∃ v, ldv lv q.1 = some v ∧ q.2 = cv ad v := by
  unfold cL at h
  rw [List.mem_filterMap] at h
  obtain ⟨i, -, h2⟩ := h
  rw [Option.map_eq_some_iff] at h2
  obtain ⟨v, h3, h4⟩ := h2
  subst h4
  exact ⟨v, h3, rfl⟩
theorem lvOk.has {ad : Nat → Nat} {ls : Array Slot} {nL : Nat} {lv : Lv} (h : lvOk ad ls nL lv) : lv_has ls nL (cL ad lv) := by
  refine ⟨h.2.1, h.2.2.1, fun q hq => ?_⟩
  obtain ⟨v, h1, h2⟩ := cL_of hq
  rw [h2]
  exact h.2.2.2 _ _ h1
theorem cv_cat (ad : Nat → Nat) (v : Value) : (cv ad v).category = v.category := by cases v <;> rfl
theorem cv_sum (ad : Nat → Nat) (st : List Value) : ((st.map (cv ad)).map fun v => v.category).sum = (st.map fun v => v.category).sum := by
  rw [List.map_map]
  exact congrArg List.sum (List.map_congr_left (fun v _ => cv_cat ad v))
theorem ldv_set {lv : Lv} {i j : Nat} {o : Option Value} : ldv (lv.set i o) j = if i = j ∧ j < lv.length then o else ldv lv j := by
  unfold ldv
  rw [List.getElem?_set]
  by_cases h : i = j
  · subst h
    by_cases h2 : i < lv.length
    · simp [h2]
    · simp [h2]
  · simp [h]
theorem cut1_len (lv : Lv) (i : Nat) : (cut1 lv i).length = lv.length := by
  cases i with
  | zero => rfl
  | succ j =>
    unfold cut1
    simp only
    split <;> simp
theorem cut1_ld {lv : Lv} {i j : Nat} {v : Value} (h : ldv (cut1 lv i) j = some v) : ldv lv j = some v ∧ ¬ (j + 1 = i ∧ v.category = 2) := by
  cases i with
  | zero => exact ⟨h, fun q => by omega⟩
  | succ k =>
    have key : ∀ (h : ldv (lv.set k none) j = some v), ldv lv j = some v ∧ ¬ (j + 1 = k + 1 ∧ v.category = 2) := fun h => by
      rw [ldv_set] at h
      by_cases hk : k = j ∧ j < lv.length
      · rw [if_pos hk] at h; cases h
      · rw [if_neg hk] at h
        exact ⟨h, fun q => hk ⟨by omega, ldv_lt h⟩⟩
    unfold cut1 at h
    simp only at h
    split at h
    · exact key h
    · exact key h
    · rename_i h1 h2
      refine ⟨h, fun q => ?_⟩
      obtain ⟨q1, q2⟩ := q
      have : k = j := by omega
      subst this
      cases v with
      | long x => exact h1 x h
      | double x => exact h2 x h
      | _ => simp [Value.category] at q2
theorem stv1_len (lv : Lv) (i : Nat) (v : Value) : (stv1 lv i v).length = lv.length := by simp [stv1, cut1_len]
theorem stv2_len (lv : Lv) (i : Nat) (v : Value) : (stv2 lv i v).length = lv.length := by simp [stv2, cut1_len]
theorem lvOk.st1 {ad : Nat → Nat} {ls ls' : Array Slot} {nL : Nat} {lv : Lv} {i : Nat} {v : Value} (h : lvOk ad ls nL lv) (h2 : lv_has ls' nL ((i, cv ad v) :: (cL ad lv).filter (fun q => !(q.1 == i) && !(q.1 + 1 == i && q.2.category == 2)))) : lvOk ad ls' nL (stv1 lv i v) := by
  refine ⟨by rw [stv1_len]; exact h.1, h2.1, h2.2.1, fun j w hj => ?_⟩
  unfold stv1 at hj
  rw [ldv_set, cut1_len] at hj
  by_cases hij : i = j ∧ j < lv.length
  · rw [if_pos hij] at hj
    cases hj
    obtain ⟨rfl, -⟩ := hij
    exact h2.2.2 _ List.mem_cons_self
  · rw [if_neg hij] at hj
    obtain ⟨a, b⟩ := cut1_ld hj
    have hne : ¬ j = i := fun e => hij ⟨e.symm, ldv_lt a⟩
    refine h2.2.2 (j, cv ad w) (List.mem_cons_of_mem _ (List.mem_filter.mpr ⟨cL_in a, ?_⟩))
    have hb : ¬ (j + 1 = i ∧ (cv ad w).category = 2) := by rw [cv_cat]; exact b
    simp only [Bool.and_eq_true, Bool.not_eq_true', beq_eq_false_iff_ne, ne_eq, Bool.and_eq_false_iff]
    refine ⟨hne, ?_⟩
    by_cases e : j + 1 = i
    · exact Or.inr (fun q => hb ⟨e, q⟩)
    · exact Or.inl e
theorem lvOk.st2 {ad : Nat → Nat} {ls ls' : Array Slot} {nL : Nat} {lv : Lv} {i : Nat} {v : Value} (h : lvOk ad ls nL lv) (h2 : lv_has ls' nL ((i, cv ad v) :: (cL ad lv).filter (fun q => !(q.1 == i) && (!(q.1 == i + 1) && !(q.1 + 1 == i && q.2.category == 2))))) : lvOk ad ls' nL (stv2 lv i v) := by
  refine ⟨by rw [stv2_len]; exact h.1, h2.1, h2.2.1, fun j w hj => ?_⟩
  unfold stv2 at hj
  rw [ldv_set, List.length_set, cut1_len] at hj
  by_cases hij1 : i + 1 = j ∧ j < lv.length
  · rw [if_pos hij1] at hj; cases hj
  rw [if_neg hij1, ldv_set, cut1_len] at hj
  by_cases hij : i = j ∧ j < lv.length
  · rw [if_pos hij] at hj
    cases hj
    obtain ⟨rfl, -⟩ := hij
    exact h2.2.2 _ List.mem_cons_self
  · rw [if_neg hij] at hj
    obtain ⟨a, b⟩ := cut1_ld hj
    have hne : ¬ j = i := fun e => hij ⟨e.symm, ldv_lt a⟩
    have hne1 : ¬ j = i + 1 := fun e => hij1 ⟨e.symm, ldv_lt a⟩
    refine h2.2.2 (j, cv ad w) (List.mem_cons_of_mem _ (List.mem_filter.mpr ⟨cL_in a, ?_⟩))
    have hb : ¬ (j + 1 = i ∧ (cv ad w).category = 2) := by rw [cv_cat]; exact b
    simp only [Bool.and_eq_true, Bool.not_eq_true', beq_eq_false_iff_ne, ne_eq, Bool.and_eq_false_iff]
    refine ⟨hne, hne1, ?_⟩
    by_cases e : j + 1 = i
    · exact Or.inr (fun q => hb ⟨e, q⟩)
    · exact Or.inl e
theorem lvOk.inc {ad : Nat → Nat} {ls ls' : Array Slot} {nL : Nat} {lv : Lv} {i : Nat} {x y : Int32} (h : lvOk ad ls nL lv) (hi : ldv lv i = some (.int x)) (h2 : lv_has ls' nL ((i, .int y) :: (cL ad lv).filter (fun q => !(q.1 == i) && !(q.1 + 1 == i && q.2.category == 2)))) : lvOk ad ls' nL (lv.set i (some (.int y))) := by
  refine ⟨by rw [List.length_set]; exact h.1, h2.1, h2.2.1, fun j w hj => ?_⟩
  rw [ldv_set] at hj
  by_cases hij : i = j ∧ j < lv.length
  · rw [if_pos hij] at hj
    cases hj
    obtain ⟨rfl, -⟩ := hij
    exact h2.2.2 _ List.mem_cons_self
  · rw [if_neg hij] at hj
    have hne : ¬ j = i := fun e => hij ⟨e.symm, ldv_lt hj⟩
    have hb : ¬ (j + 1 = i ∧ (cv ad w).category = 2) := fun ⟨e1, e2⟩ => by
      have w1 := h.2.2.1.1 j _ (h.2.2.2 j w hj) e2
      rw [e1, h.2.2.2 i _ hi] at w1
      cases w1
    refine h2.2.2 (j, cv ad w) (List.mem_cons_of_mem _ (List.mem_filter.mpr ⟨cL_in hj, ?_⟩))
    simp only [Bool.and_eq_true, Bool.not_eq_true', beq_eq_false_iff_ne, ne_eq, Bool.and_eq_false_iff]
    refine ⟨hne, ?_⟩
    by_cases e : j + 1 = i
    · exact Or.inr (fun q => hb ⟨e, q⟩)
    · exact Or.inl e
theorem enL_len {ad : Nat → Nat} : ∀ as : List Value, (enL as).length = (lg_sl (as.map (cv ad))).length := by
  intro as
  induction as with
  | nil => rfl
  | cons v r ih => cases v <;> simp [enL, lg_sl, cv, Value.category] at ih ⊢ <;> omega
theorem lvOk.entry {ad : Nat → Nat} {args : List Value} {n : Nat} (hn : (lg_sl (args.map (cv ad))).length ≤ n) : lvOk ad ((lg_sl (args.map (cv ad)) ++ List.replicate (n - (lg_sl (args.map (cv ad))).length) Slot.unset).toArray) n (enLv n args) := by
  have h := lv_entry (args.map (cv ad)) hn
  have hlen : ∀ as : List Value, (enL as).length = (lg_sl (as.map (cv ad))).length := by
    intro as
    induction as with
    | nil => rfl
    | cons v r ih => cases v <;> simp [enL, lg_sl, cv, Value.category] at ih ⊢ <;> omega
  have hin : ∀ (as : List Value) (j i : Nat) (v : Value), ldv (enL as) i = some v → (j + i, cv ad v) ∈ lv_args j (as.map (cv ad)) := by
    intro as
    induction as with
    | nil => intro j i v hv; simp [enL, ldv] at hv
    | cons a r ih =>
      intro j i v hv
      have two : ∀ (h0 : a.category = 2) (e : enL (a :: r) = some a :: none :: enL r), (j + i, cv ad v) ∈ lv_args j ((a :: r).map (cv ad)) := fun h0 e => by
        rw [e] at hv
        match i, hv with
        | 0, hv =>
          simp [ldv] at hv
          subst hv
          exact List.mem_cons_self
        | 1, hv => simp [ldv] at hv
        | i + 2, hv =>
          have h1 : ldv (enL r) i = some v := by simpa [ldv] using hv
          have h2 := ih (j + 2) i v h1
          refine List.mem_cons_of_mem _ ?_
          rw [if_pos (by rw [cv_cat]; exact h0)]
          rw [show j + (i + 2) = j + 2 + i by omega]
          exact h2
      have one : ∀ (h0 : ¬ a.category = 2) (e : enL (a :: r) = some a :: enL r), (j + i, cv ad v) ∈ lv_args j ((a :: r).map (cv ad)) := fun h0 e => by
        rw [e] at hv
        match i, hv with
        | 0, hv =>
          simp [ldv] at hv
          subst hv
          exact List.mem_cons_self
        | i + 1, hv =>
          have h1 : ldv (enL r) i = some v := by simpa [ldv] using hv
          have h2 := ih (j + 1) i v h1
          refine List.mem_cons_of_mem _ ?_
          rw [if_neg (by rw [cv_cat]; exact h0)]
          rw [show j + (i + 1) = j + 1 + i by omega]
          exact h2
      cases a with
      | long x => exact two rfl rfl
      | double x => exact two rfl rfl
      | _ => exact one (by simp [Value.category]) rfl
  refine ⟨by simp only [enLv, List.length_append, List.length_replicate]; have := hlen args; omega, h.1, h.2.1, fun i v hv => ?_⟩
  have hv2 : ldv (enL args) i = some v := by
    unfold enLv ldv at hv
    rw [List.getElem?_append] at hv
    split at hv
    · exact hv
    · rw [List.getElem?_replicate] at hv
      split at hv <;> simp at hv
  have h3 := h.2.2 (i, cv ad v) (by have := hin args 0 i v hv2; rwa [Nat.zero_add] at this)
  exact h3
