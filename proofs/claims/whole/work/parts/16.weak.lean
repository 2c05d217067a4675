/-! locals that are not wanted any more may be forgotten -/
def nrV (o : Option Value) : Bool := match o with
  | some (.ref _) => false
  | _ => true
def lvLe (a b : Lv) : Prop := a.length = b.length ∧ (∀ i v, ldv a i = some v → ldv b i = some v) ∧ ∀ i v, ldv b i = some v → ldv a i = some v ∨ nrV (some v) = true
theorem lvLe.set {a b : Lv} (h : lvLe a b) (k : Nat) (o : Option Value) : lvLe (a.set k o) (b.set k o) := by
  refine ⟨by simp [h.1], fun i v hv => ?_, fun i v hv => ?_⟩
  · rw [ldv_set] at hv ⊢
    rw [← h.1]
    split
    · rename_i e; rw [if_pos e] at hv; exact hv
    · rename_i e; rw [if_neg e] at hv; exact h.2.1 i v hv
  · rw [ldv_set] at hv ⊢
    rw [← h.1] at hv
    split
    · rename_i e; rw [if_pos e] at hv; exact Or.inl hv
    · rename_i e; rw [if_neg e] at hv; exact h.2.2 i v hv
theorem cut1_of {lv : Lv} {i j : Nat} {v : Value} (h : ldv lv j = some v) (hn : ¬ (j + 1 = i ∧ v.category = 2)) : ldv (cut1 lv i) j = some v := by
  cases i with
  | zero => exact h
  | succ k =>
    have key : ∀ (q : ∃ w, ldv lv k = some w ∧ w.category = 2), ldv (lv.set k none) j = some v := fun ⟨w, q1, q2⟩ => by
      rw [ldv_set, if_neg]
      · exact h
      · rintro ⟨rfl, -⟩
        rw [h] at q1
        cases q1
        exact hn ⟨rfl, q2⟩
    unfold cut1
    simp only
    split
    · rename_i x hx; exact key ⟨_, hx, rfl⟩
    · rename_i x hx; exact key ⟨_, hx, rfl⟩
    · exact h
theorem lvLe.cut {a b : Lv} (h : lvLe a b) (k : Nat) : lvLe (cut1 a k) (cut1 b k) := by
  refine ⟨by rw [cut1_len, cut1_len]; exact h.1, fun i v hv => ?_, fun i v hv => ?_⟩
  · obtain ⟨h1, h2⟩ := cut1_ld hv
    exact cut1_of (h.2.1 i v h1) h2
  · obtain ⟨h1, h2⟩ := cut1_ld hv
    exact (h.2.2 i v h1).imp (fun q => cut1_of q h2) id
theorem lvLe.all {a b : Lv} (h : lvLe a b) {n : Nat} (ha : a.all (okA n) = true) : b.all (okA n) = true := by
  rw [List.all_eq_true] at ha ⊢
  intro o ho
  obtain ⟨i, hi⟩ := List.mem_iff_getElem?.mp ho
  cases o with
  | none => rfl
  | some v =>
    have hv : ldv b i = some v := by simp [ldv, hi]
    rcases h.2.2 i v hv with q | q
    · have hm : some v ∈ a := by
        unfold ldv at q
        cases h9 : a[i]? with
        | none => rw [h9] at q; cases q
        | some o9 =>
          rw [h9] at q
          have : o9 = some v := q
          exact this ▸ List.mem_of_getElem? h9
      exact ha _ hm
    · cases v with
      | ref x => cases q
      | _ => rfl
theorem loadI_le {a b : Lv} (h : lvLe a b) {i : Instr} {v : Value} (hv : loadI i a = some v) : loadI i b = some v := by
  unfold loadI at hv ⊢
  split at hv
  all_goals first
    | (cases hv; done)
    | skip
  all_goals (split at hv)
  all_goals first
    | (cases hv; done)
    | skip
  all_goals (rename_i hq; simp only [h.2.1 _ _ hq]; exact hv)
theorem loadI_only {a : Lv} {i : Instr} {v : Value} (hv : loadI i a = some v) : (∀ lv w, storeI i lv w = none) ∧ ∀ kc st, pureI i kc st = none := by
  unfold loadI at hv
  split at hv
  all_goals first
    | (cases hv; done)
    | exact ⟨fun _ _ => rfl, fun _ _ => rfl⟩
theorem storeI_le {a b a2 : Lv} (h : lvLe a b) {i : Instr} {v : Value} (hv : storeI i a v = some a2) : ∃ b2, storeI i b v = some b2 ∧ lvLe a2 b2 := by
  unfold storeI at hv ⊢
  split at hv
  all_goals first
    | (cases hv; done)
    | skip
  all_goals (split at hv)
  all_goals first
    | (cases hv; done)
    | skip
  all_goals (split at hv)
  all_goals first
    | (cases hv; done)
    | skip
  all_goals (rename_i hq; rw [h.1] at hq; cases hv; simp only [if_pos hq])
  all_goals first
    | exact ⟨_, rfl, (h.cut _).set _ _⟩
    | exact ⟨_, rfl, ((h.cut _).set _ _).set _ _⟩
theorem storeI_none {a b : Lv} (h : lvLe a b) {i : Instr} {v : Value} (hv : storeI i a v = none) : storeI i b v = none := by
  cases hb : storeI i b v with
  | none => rfl
  | some b2 =>
    exfalso
    unfold storeI at hv hb
    split at hb
    all_goals first
      | (cases hb; done)
      | skip
    all_goals (split at hb)
    all_goals first
      | (cases hb; done)
      | skip
    all_goals (split at hb)
    all_goals first
      | (cases hb; done)
      | skip
    all_goals (rename_i hq; rw [← h.1] at hq; simp only [if_pos hq] at hv; cases hv)
theorem goB_le {b b' : Bool} {P P' : Prop} (hb : b = true → b' = true) (h : P → P') (k : goB b P) : goB b' P' := by
  obtain ⟨h1, h2⟩ := goB_t k
  rw [hb h1]
  exact h h2
set_option maxHeartbeats 4000000 in
theorem stepP_le {g : Gm} {Q : Qt} {K : Kt} (hg : Gmono g) {pc : Nat} {lv lv' : Lv} {st : List Value} {L : Ly} {X : HX} {Y : HY} {z : Nat × Nat} (hl : lvLe lv lv') (k : stepP g Q (fun pc lv st L X Y z => ∀ lv', lvLe lv lv' → K pc lv' st L X Y z) pc lv st L X Y z) : stepP g Q K pc lv' st L X Y z := by
  have hcall : ∀ len, pmCall g Q (fun pc lv st L X Y z => ∀ lv', lvLe lv lv' → K pc lv' st L X Y z) pc len lv st L X Y z → pmCall g Q K pc len lv' st L X Y z := by
    intro len k
    unfold pmCall at k ⊢
    split at k
    · exact k.elim
    · rename_i ce hce
      refine goB_le (fun hb => ?_) (callP_mono (hg _ _ hce) (fun _ _ _ _ h => h) (fun v L X Y h => h lv' hl)) k
      simp only [Bool.and_eq_true] at hb ⊢
      refine ⟨hb.1, ?_⟩
      have h9 := hb.2
      unfold ceChk at h9 ⊢
      split at h9
      · rfl
      · simp only [Bool.and_eq_true, Bool.or_eq_true] at h9 ⊢
        exact ⟨h9.1, h9.2.imp id (fun q => ⟨⟨hl.all q.1.1, q.1.2⟩, q.2⟩)⟩
  unfold stepP at k ⊢
  split at k
  · exact k.elim
  split at k
  all_goals first
    | exact hcall _ k
    | skip
  · split at k
    · exact k lv' hl
    · exact k.elim
  · split at k
    · exact ⟨fun h => k.1 h lv' hl, fun h => k.2 h lv' hl⟩
    · exact k.elim
  · split at k
    · exact ⟨fun h => k.1 h lv' hl, fun h => k.2 h lv' hl⟩
    · exact k.elim
  · split at k
    · exact k lv' hl
    · exact k lv' hl
    · exact k.elim
  · split at k
    · exact k lv' hl
    · exact k.elim
  · split at k
    · exact ⟨fun h => k.1 h lv' hl, tswL_mono (fun t h => h lv' hl) _ _ k.2⟩
    · exact k.elim
  · split at k
    · exact ⟨k.1, k.2 lv' hl⟩
    · exact k.elim
  · split at k
    · exact ⟨k.1, k.2 lv' hl⟩
    · exact k.elim
  · split at k
    · rename_i x hv
      simp only [hl.2.1 _ _ hv]
      exact k _ (hl.set _ _)
    · exact k.elim
  · split at k
    · exact k lv' hl
    · exact k.elim
  · split at k
    · exact k lv' hl
    · exact k.elim
  · split at k
    · exact k lv' hl
    · exact k.elim
  · split at k
    · split at k
      · exact k lv' hl
      · exact k.elim
    · exact k.elim
  · split at k
    · split at k
      · exact ⟨k.1, k.2 lv' hl⟩
      · exact k.elim
    · exact k.elim
  · split at k
    · split at k
      · exact ⟨k.1, k.2 lv' hl⟩
      · exact ⟨k.1, k.2 lv' hl⟩
      · exact k.elim
    · exact k.elim
  · split at k
    · split at k
      · exact ⟨k.1, k.2 lv' hl⟩
      · exact k.elim
    · exact k.elim
  · split at k
    · split at k
      · exact ⟨k.1, k.2 lv' hl⟩
      · exact k.elim
    · exact k.elim
  · split at k
    · split at k
      · exact ⟨k.1, k.2 lv' hl⟩
      · exact ⟨k.1, k.2 lv' hl⟩
      · exact k.elim
    · exact k.elim
  · split at k
    · split at k
      · exact ⟨k.1, k.2 lv' hl⟩
      · exact k.elim
    · exact k.elim
  · split at k
    · split at k
      · split at k
        · exact goB_mono (fun h => h lv' hl) k
        · exact k.elim
      · exact k.elim
    · exact k.elim
  · split at k
    · split at k
      · split at k
        · exact goB_mono (fun h => h lv' hl) k
        · exact goB_mono (fun h => h lv' hl) k
        · exact goB_mono (fun h => ⟨h.1, h.2 lv' hl⟩) k
        · exact goB_mono (fun h => h lv' hl) k
        · exact goB_mono (fun h => h lv' hl) k
        · exact k.elim
      · exact k.elim
    · exact k.elim
  · split at k
    · exact k
    · split at k
      · refine goB_le (fun hb => ?_) (fun h => h lv' hl) k
        simp only [Bool.and_eq_true] at hb ⊢
        exact ⟨⟨⟨hb.1.1.1, hl.all hb.1.1.2⟩, hb.1.2⟩, hb.2⟩
      · exact k.elim
  · split at k
    · refine ⟨k.1, k.2.1, k.2.2.1, goB_le (fun hb => ?_) (fun h => h lv' hl) k.2.2.2⟩
      simp only [Bool.and_eq_true] at hb ⊢
      exact ⟨⟨⟨hb.1.1.1, hl.all hb.1.1.2⟩, hb.1.2⟩, hb.2⟩
    · exact k.elim
  · split at k
    · split at k
      · exact goB_mono (fun h => h lv' hl) k
      · exact k.elim
    · exact hcall _ k
  · exact k
  · exact k
  · exact k
  · split at k
    · rename_i v hv
      simp only [loadI_le hl hv]
      exact k lv' hl
    · split
      · rename_i v hv
        obtain ⟨q1, q2⟩ := loadI_only hv
        exfalso
        split at k
        · simp only [q1, q2] at k
        · simp only [q2] at k
      · split at k
        · split at k
          · rename_i lv2 hv
            obtain ⟨b2, e1, e2⟩ := storeI_le hl hv
            simp only [e1]
            exact k b2 e2
          · rename_i hv
            simp only [storeI_none hl hv]
            split at k
            · exact k lv' hl
            · exact k.elim
        · split at k
          · exact k lv' hl
          · exact k.elim
theorem WPx.weak {g : Gm} (hg : Gmono g) {Q : Qt} {pc : Nat} {lv lv' : Lv} {st : List Value} {L : Ly} {X : HX} {Y : HY} {z : Nat × Nat} (hl : lvLe lv lv') (k : WPx g Q pc lv st L X Y z) : WPx g Q pc lv' st L X Y z :=
  k (fun pc lv st L X Y z => ∀ lv', lvLe lv lv' → WPx g Q pc lv' st L X Y z) (fun pc lv st L X Y z h lv' hl => WPx.step hg (stepP_le hg hl h)) lv' hl
/-- what a mask leaves -/
def msk : List Bool → Lv → Lv
  | true :: bs, o :: lv => o :: msk bs lv
  | false :: bs, _ :: lv => none :: msk bs lv
  | [], lv => lv
  | _ :: _, [] => []
def mskB : List Bool → Lv → Bool
  | true :: bs, _ :: lv => mskB bs lv
  | false :: bs, o :: lv => nrV o && mskB bs lv
  | _, _ => true
theorem lvLe.refl (a : Lv) : lvLe a a := ⟨rfl, fun _ _ h => h, fun _ _ h => Or.inl h⟩
theorem lvLe.cons {a b : Lv} (h : lvLe a b) (o : Option Value) : lvLe (o :: a) (o :: b) := by
  refine ⟨by simp [h.1], fun i v hv => ?_, fun i v hv => ?_⟩
  · cases i with
    | zero => exact hv
    | succ i => exact h.2.1 i v hv
  · cases i with
    | zero => exact Or.inl hv
    | succ i => exact h.2.2 i v hv
theorem lvLe.drop {a b : Lv} (h : lvLe a b) {o : Option Value} (ho : nrV o = true) : lvLe (none :: a) (o :: b) := by
  refine ⟨by simp [h.1], fun i v hv => ?_, fun i v hv => ?_⟩
  · cases i with
    | zero => cases hv
    | succ i => exact h.2.1 i v hv
  · cases i with
    | zero =>
      have : o = some v := hv
      exact Or.inr (this ▸ ho)
    | succ i => exact h.2.2 i v hv
theorem msk_le : ∀ (bs : List Bool) (lv : Lv), mskB bs lv = true → lvLe (msk bs lv) lv
  | [], lv, _ => lvLe.refl lv
  | true :: bs, o :: lv, h => (msk_le bs lv h).cons o
  | false :: bs, o :: lv, h => by
    simp only [mskB, Bool.and_eq_true] at h
    exact (msk_le bs lv h.2).drop h.1
  | true :: _, [], _ => lvLe.refl []
  | false :: _, [], _ => lvLe.refl []
def mkK (g : Gm) (mask : Nat → List Bool) (Q : Qt) : Kt := fun pc lv st L X Y z => goB (mskB (mask pc) lv) (WPx g Q pc (msk (mask pc) lv) st L X Y z)
theorem mkK_ok {g : Gm} (hg : Gmono g) {mask : Nat → List Bool} {Q : Qt} {pc : Nat} {lv : Lv} {st : List Value} {L : Ly} {X : HX} {Y : HY} {z : Nat × Nat} (k : mkK g mask Q pc lv st L X Y z) : WPx g Q pc lv st L X Y z := by
  obtain ⟨h1, h2⟩ := goB_t k
  exact WPx.weak hg (msk_le _ _ h1) h2
theorem wpto_mono {g : Gm} (hg : Gmono g) {stops : List Nat} {Q : Qt} {K K' : Kt} (hK : ∀ pc lv st L X Y z, K pc lv st L X Y z → K' pc lv st L X Y z) : ∀ (n pc : Nat) (lv : Lv) (st : List Value) (L : Ly) (X : HX) (Y : HY) (z : Nat × Nat), wpto g stops Q K n pc lv st L X Y z → wpto g stops Q K' n pc lv st L X Y z
  | 0, _, _, _, _, _, _, _, k => k.elim
  | n + 1, pc, lv, st, L, X, Y, z, k => by
    unfold wpto at k ⊢
    split at k
    · exact hK _ _ _ _ _ _ _ k
    · exact stepP_mono hg (fun _ _ _ _ h => h) (fun pc lv st L X Y z h => wpto_mono hg hK n pc lv st L X Y z h) k
/-- a segment, to the next stops, with what is wanted there alone -/
theorem WPx.segM {g : Gm} (hg : Gmono g) (mask : Nat → List Bool) (stops : List Nat) (n : Nat) {Q : Qt} {pc : Nat} {lv : Lv} {st : List Value} {L : Ly} {X : HX} {Y : HY} {z : Nat × Nat} (k : stepP g Q (wpto g stops Q (mkK g mask Q) n) pc lv st L X Y z) : WPx g Q pc lv st L X Y z :=
  WPx.seg hg stops n (stepP_mono hg (fun _ _ _ _ h => h) (fun pc lv st L X Y z h => wpto_mono hg (fun _ _ _ _ _ _ _ h => mkK_ok hg h) n pc lv st L X Y z h) k)
