/-! the frame rule of the pure machine -/
theorem cE_sel {ad : Nat → Nat} {ca : Nat → ClassId} {X : HX} {Y : HY} {sel : List Nat} (k : Nat) (s : Sh) : cE (fun j => ad (selF sel j)) (fun j => ca (sel.getD j 0)) (sb sel X) (sb sel Y) k s = cE ad ca X Y (sel.getD k 0) (rnS (selF sel) s) := by
  cases s with
  | inl o =>
    obtain ⟨ci, sl⟩ := o
    simp only [cE, rnS]
    congr 2
    apply List.ext_getElem?
    intro j
    simp only [List.getElem?_mapIdx, List.getElem?_map]
    cases sl[j]? with
    | none => rfl
    | some s9 =>
      cases s9 with
      | inl t => rfl
      | inr o => cases o <;> rfl
  | inr q =>
    obtain ⟨t, n⟩ := q
    rfl
theorem selOk_spec {sel : List Nat} {L Lc : Ly} (h : selOk sel L Lc = true) : sel.length = Lc.length ∧ sel.length ≤ 1000 ∧ (∀ k, k < sel.length → sel.getD k 0 < L.length ∧ L[sel.getD k 0]? = (Lc[k]?).map (rnS (selF sel))) ∧ sel.Nodup := by
  simp only [selOk, Bool.and_eq_true, decide_eq_true_eq, List.all_eq_true, List.mem_range] at h
  exact ⟨h.1.1.1, Nat.le_of_ble_eq_true h.1.1.2, fun k hk => h.1.2 k hk, h.2⟩
theorem selBk_spec {sel : List Nat} {L Lc2 L2 : Ly} (h : selBk sel L Lc2 L2 = true) : sel.length ≤ Lc2.length ∧ L2.length = L.length + (Lc2.length - sel.length) ∧ L2.length ≤ 1000 ∧ Lc2.length ≤ 1000 ∧ (∀ s ∈ Lc2, okB Lc2.length s = true) ∧ ∀ a, a < L2.length → L2[a]? = if a < L.length then (if sel.contains a then (Lc2[sel.idxOf a]?).map (rnS (bkN sel L.length)) else L[a]?) else (Lc2[sel.length + (a - L.length)]?).map (rnS (bkN sel L.length)) := by
  simp only [selBk, Bool.and_eq_true, decide_eq_true_eq, List.all_eq_true, List.mem_range] at h
  exact ⟨Nat.le_of_ble_eq_true h.1.1.1.1.1, h.1.1.1.1.2, Nat.le_of_ble_eq_true h.1.1.1.2, Nat.le_of_ble_eq_true h.1.1.2, h.1.2, h.2⟩
theorem cE_ren {ad ad2 : Nat → Nat} {ca ca2 : Nat → ClassId} {X X2 : HX} {Y Y2 : HY} {f : Nat → Nat} {k a n : Nat} {s : Sh} (hs : okB n s = true) (hf : ∀ j, j < n ∨ 1000 ≤ j → ad2 (f j) = ad j) (hc : ca2 a = ca k) (hX : X2 a = X k) (hY : Y2 a = Y k) : cE ad2 ca2 X2 Y2 a (rnS f s) = cE ad ca X Y k s := by
  cases s with
  | inl o =>
    obtain ⟨ci, sl⟩ := o
    simp only [cE, rnS]
    congr 2
    apply List.ext_getElem?
    intro j
    simp only [List.getElem?_mapIdx, List.getElem?_map]
    cases hj : sl[j]? with
    | none => rfl
    | some s9 =>
      have h9 : okK n s9 = true := List.all_eq_true.mp hs s9 (List.mem_of_getElem? hj)
      cases s9 with
      | inl t => simp only [Option.map_some, rnK, cSk, hX, hY]
      | inr o =>
        cases o with
        | none => rfl
        | some b =>
          simp only [okK, Bool.or_eq_true] at h9
          have : ad2 (f b) = ad b := hf b (h9.elim (fun q => Or.inl (Nat.lt_of_succ_le (Nat.le_of_ble_eq_true q))) (fun q => Or.inr (Nat.le_of_ble_eq_true q)))
          simp only [Option.map_some, rnK, cSk, this]
  | inr q =>
    obtain ⟨t, n⟩ := q
    simp only [cE, rnS, hc, hX, hY]
theorem cE_same {ad ad2 : Nat → Nat} {ca ca2 : Nat → ClassId} {X X2 : HX} {Y Y2 : HY} {a n : Nat} {s : Sh} (hs : (ad2 = ad) ∨ (okB n s = true ∧ ∀ j, j < n ∨ 1000 ≤ j → ad2 j = ad j)) (hc : ca2 a = ca a) (hX : X2 a = X a) (hY : Y2 a = Y a) : cE ad2 ca2 X2 Y2 a s = cE ad ca X Y a s := by
  rcases hs with rfl | ⟨h1, h2⟩
  · cases s with
    | inl o => simp only [cE, hX, hY]
    | inr q => obtain ⟨t, n⟩ := q; simp only [cE, hc, hX, hY]
  · have h := cE_ren (f := fun j => j) h1 h2 hc hX hY
    rw [← h]
    cases s with
    | inl o =>
      obtain ⟨ci, sl⟩ := o
      simp only [rnS]
      have : sl.map (rnK fun j => j) = sl := by
        conv => rhs; rw [← List.map_id sl]
        refine List.map_congr_left (fun q _ => ?_)
        cases q with
        | inl t => rfl
        | inr o => cases o <;> rfl
      rw [this]
    | inr q => rfl
theorem getD_get {sel : List Nat} {k : Nat} (h : k < sel.length) : sel.getD k 0 = sel[k] := by simp [List.getD, h]
theorem idx_of_get {sel : List Nat} (hn : sel.Nodup) {k : Nat} (h : k < sel.length) : sel.idxOf (sel.getD k 0) = k := by
  rw [getD_get h]
  have h1 : sel.idxOf sel[k] < sel.length := List.idxOf_lt_length_of_mem (List.getElem_mem h)
  have h2 : sel[sel.idxOf sel[k]] = sel[k] := List.getElem_idxOf h1
  have h3 := List.pairwise_iff_getElem.mp hn
  rcases Nat.lt_trichotomy (sel.idxOf sel[k]) k with q | q | q
  · exact absurd h2 (h3 _ _ h1 h q)
  · exact q
  · exact absurd h2.symm (h3 _ _ h h1 q)
theorem get_of_idx {sel : List Nat} {a : Nat} (h : a ∈ sel) : sel.idxOf a < sel.length ∧ sel.getD (sel.idxOf a) 0 = a := by
  have h1 : sel.idxOf a < sel.length := List.idxOf_lt_length_of_mem h
  exact ⟨h1, by rw [getD_get h1]; exact List.getElem_idxOf h1⟩
/-- the callee's world, out of the caller's -/
theorem sel_world {D : va_G} {ad : Nat → Nat} {ca : Nat → ClassId} {L Lc : Ly} {X : HX} {Y : HY} {sel : List Nat} (hs : selOk sel L Lc = true) :
    (∀ (k : Nat) (q : Nat × va_E), (cW (fun j => ad (selF sel j)) (fun j => ca (sel.getD j 0)) Lc (sb sel X) (sb sel Y))[k]? = some q → (cW ad ca L X Y)[sel.getD k 0]? = some q) ∧
    (∀ q ∈ cT (fun j => ca (sel.getD j 0)) Lc, q ∈ cT ca L) := by
  obtain ⟨h1, h2, h3, h4⟩ := selOk_spec hs
  refine ⟨fun k q hq => ?_, fun q hq => ?_⟩
  · obtain ⟨s, hL, rfl⟩ := cW_of hq
    have hk : k < sel.length := by rw [h1]; exact lt_of_get hL
    have h5 := (h3 k hk).2
    rw [hL] at h5
    rw [cW_at h5, cE_sel]
    rw [show selF sel k = sel.getD k 0 from if_pos (by omega)]
  · obtain ⟨k, t, n, hL, rfl⟩ := cT_in hq
    have hk : k < sel.length := by rw [h1]; exact lt_of_get hL
    have h5 := (h3 k hk).2
    rw [hL] at h5
    obtain ⟨t0, ht⟩ := cT_at (ca := ca) (show L[sel.getD k 0]? = some (.inr (t, n)) from h5)
    exact List.mem_of_getElem? ht
theorem va_at_lt {D : va_G} {ws : va_W} {H : Heap} {k : Nat} {q : Nat × va_E} (hP : va_P D vwCl ws H) (hk : ws[k]? = some q) : q.1 < H.size := by
  have h := hP k q hk
  obtain ⟨a, e⟩ := q
  cases e with
  | inl a9 =>
    have h2 : H[a]? = some _ := h
    exact (Array.getElem?_eq_some_iff.mp h2).1
  | inr o =>
    obtain ⟨r, h1, h2⟩ := h
    first
      | exact (Array.getElem?_eq_some_iff.mp h2.choose_spec.1).1
      | (obtain ⟨cell, h3, -⟩ := h2; exact (Array.getElem?_eq_some_iff.mp h3).1)

section Fr
variable {D : va_G} {ad ad3 : Nat → Nat} {ca ca3 : Nat → ClassId} {L Lc Lc2 L2 : Ly} {X X3 : HX} {Y Y3 : HY} {sel : List Nat} {A : Nat → Prop} {H H1 : Heap} {U : State}
/-- .. and back: the caller's world behind the call -/
theorem sel_back (hs : selOk sel L Lc = true) (hb : selBk sel L Lc2 L2 = true) (hP : va_P D vwCl (cW ad ca L X Y) H) (hD : va_D A (cW ad ca L X Y)) (hA : ∀ q, H.size ≤ q → A q)
    (hok : Lc2.length = Lc.length ∨ ∀ s ∈ L, okB L.length s = true)
    (hk : ∀ q : Nat, q < H.size → ¬ va_A (cW (fun j => ad (selF sel j)) (fun j => ca (sel.getD j 0)) Lc (sb sel X) (sb sel Y)) H.size q → H1[q]? = H[q]?)
    (he : exA ad3 (fun j => ad (selF sel j)) ca3 (fun j => ca (sel.getD j 0)) Lc.length Lc2.length) (hP3 : va_P D vwCl (cW ad3 ca3 Lc2 X3 Y3) H1) (hK3 : va_K D vwCl (cT ca3 Lc2) U) (hK : va_K D vwCl (cT ca L) U)
    (hD3 : va_D (va_A (cW (fun j => ad (selF sel j)) (fun j => ca (sel.getD j 0)) Lc (sb sel X) (sb sel Y)) H.size) (cW ad3 ca3 Lc2 X3 Y3)) :
    ∃ (ad2 : Nat → Nat) (ca2 : Nat → ClassId), exA ad2 ad ca2 ca L.length L2.length ∧ va_P D vwCl (cW ad2 ca2 L2 (mg sel L.length X X3) (mg sel L.length Y Y3)) H1 ∧ va_K D vwCl (cT ca2 L2) U ∧ va_D A (cW ad2 ca2 L2 (mg sel L.length X X3) (mg sel L.length Y Y3)) := by
  obtain ⟨s1, s2, s3, s4⟩ := selOk_spec hs
  obtain ⟨b1, b2, b3, b3c, b4, b5⟩ := selBk_spec hb
  obtain ⟨e1, e2, e3⟩ := he
  -- the addresses
  obtain ⟨ad2, ca2, f1, f2, f3, f4⟩ : ∃ (ad2 : Nat → Nat) (ca2 : Nat → ClassId), exA ad2 ad ca2 ca L.length L2.length ∧ (∀ j, j < Lc2.length ∨ 1000 ≤ j → ad2 (bkN sel L.length j) = ad3 j) ∧ (∀ j, j < Lc2.length → ca2 (bkN sel L.length j) = ca3 j) ∧ (ad2 = ad ∨ ∀ s ∈ L, okB L.length s = true) := by
    have lo : ∀ j, j < sel.length → bkN sel L.length j = sel.getD j 0 := fun j hj => by rw [bkN, if_neg (by omega), if_pos hj]
    by_cases hn : Lc2.length = Lc.length
    · obtain ⟨rfl, rfl⟩ := e3 hn
      refine ⟨ad, ca, ⟨fun _ _ => rfl, fun _ _ => rfl, fun _ => ⟨rfl, rfl⟩⟩, fun j hj => ?_, fun j hj => ?_, Or.inl rfl⟩
      · rcases hj with hj | hj
        · rw [lo j (by omega)]
          simp only [selF]
          rw [if_pos (by omega)]
        · simp only [selF, bkN]
          rw [if_pos hj, if_neg (by omega)]
      · rw [lo j (by omega)]
    · refine ⟨fun a => if a < L.length ∨ 1000 ≤ a then ad a else ad3 (sel.length + (a - L.length)), fun a => if a < L.length then ca a else ca3 (sel.length + (a - L.length)), ⟨fun k hk => if_pos hk, fun k hk => if_pos hk, fun hq => absurd hq (by omega)⟩, fun j hj => ?_, fun j hj => ?_, Or.inr (hok.resolve_left hn)⟩
      · by_cases hj1 : 1000 ≤ j
        · rw [bkN, if_pos hj1]
          show (if j < L.length ∨ 1000 ≤ j then ad j else ad3 (sel.length + (j - L.length))) = ad3 j
          rw [if_pos (Or.inr hj1), e1 j (Or.inr hj1)]
          simp only [selF]
          rw [if_neg (by omega)]
        · by_cases hj2 : j < sel.length
          · rw [lo j hj2, e1 j (Or.inl (by omega))]
            simp only [selF]
            rw [if_pos (Or.inl (s3 j hj2).1), if_pos (by omega)]
          · have hj3 : j < Lc2.length := hj.resolve_right hj1
            rw [bkN, if_neg hj1, if_neg hj2]
            simp only []
            rw [if_neg (by omega), show sel.length + (L.length + (j - sel.length) - L.length) = j by omega]
      · by_cases hj2 : j < sel.length
        · rw [lo j hj2, e2 j (by omega)]
          simp only []
          rw [if_pos (s3 j hj2).1]
        · rw [bkN, if_neg (by omega), if_neg hj2]
          simp only []
          rw [if_neg (by omega), show sel.length + (L.length + (j - sel.length) - L.length) = j by omega]
  -- each cell is the callee's or an old one
  have cases2 : ∀ (a : Nat) (q : Nat × va_E), (cW ad2 ca2 L2 (mg sel L.length X X3) (mg sel L.length Y Y3))[a]? = some q →
      (∃ k : Nat, bkN sel L.length k = a ∧ k < Lc2.length ∧ (cW ad3 ca3 Lc2 X3 Y3)[k]? = some q) ∨ (a < L.length ∧ a ∉ sel ∧ (cW ad ca L X Y)[a]? = some q) := by
    intro a q hq
    obtain ⟨s, hL, rfl⟩ := cW_of hq
    have ha := lt_of_get hL
    have h5 := b5 a ha
    rw [hL] at h5
    by_cases hl : a < L.length
    · rw [if_pos hl] at h5
      by_cases hc : a ∈ sel
      · rw [if_pos (by simpa using hc)] at h5
        obtain ⟨g1, g2⟩ := get_of_idx hc
        obtain ⟨s9, hs9, hr9⟩ := Option.map_eq_some_iff.mp h5.symm
        have hbk : bkN sel L.length (sel.idxOf a) = a := by rw [bkN, if_neg (by omega), if_pos g1, g2]
        refine Or.inl ⟨sel.idxOf a, hbk, by omega, ?_⟩
        rw [cW_at hs9, ← hr9]
        have hX : mg sel L.length X X3 a = X3 (sel.idxOf a) := by simp only [mg]; rw [if_pos hl, if_pos (by simpa using hc)]
        have hY : mg sel L.length Y Y3 a = Y3 (sel.idxOf a) := by simp only [mg]; rw [if_pos hl, if_pos (by simpa using hc)]
        rw [cE_ren (b4 s9 (List.mem_of_getElem? hs9)) (f2) (by have := f3 (sel.idxOf a) (by omega); rw [hbk] at this; exact this) hX hY]
        have h7 := f2 (sel.idxOf a) (Or.inl (by omega))
        rw [hbk] at h7
        rw [h7]
      · rw [if_neg (by simpa using hc)] at h5
        refine Or.inr ⟨hl, hc, ?_⟩
        rw [cW_at h5.symm]
        have hX : mg sel L.length X X3 a = X a := by simp only [mg]; rw [if_pos hl, if_neg (by simpa using hc)]
        have hY : mg sel L.length Y Y3 a = Y a := by simp only [mg]; rw [if_pos hl, if_neg (by simpa using hc)]
        rw [cE_same (n := L.length) (f4.imp (fun h => h) (fun h => ⟨h s (List.mem_of_getElem? h5.symm), f1.1⟩)) (f1.2.1 a hl) hX hY, f1.1 a (Or.inl hl)]
    · rw [if_neg hl] at h5
      obtain ⟨s9, hs9, hr9⟩ := Option.map_eq_some_iff.mp h5.symm
      have hlt := lt_of_get hs9
      have hbk : bkN sel L.length (sel.length + (a - L.length)) = a := by rw [bkN, if_neg (by omega), if_neg (by omega)]; omega
      refine Or.inl ⟨sel.length + (a - L.length), hbk, hlt, ?_⟩
      rw [cW_at hs9, ← hr9]
      have hX : mg sel L.length X X3 a = X3 (sel.length + (a - L.length)) := by simp only [mg]; rw [if_neg hl]
      have hY : mg sel L.length Y Y3 a = Y3 (sel.length + (a - L.length)) := by simp only [mg]; rw [if_neg hl]
      rw [cE_ren (b4 s9 (List.mem_of_getElem? hs9)) f2 (by have := f3 _ hlt; rw [hbk] at this; exact this) hX hY]
      have h7 := f2 _ (Or.inl hlt)
      rw [hbk] at h7
      rw [h7]
  -- an old cell that the callee has not stays
  have old : ∀ (a : Nat) (q : Nat × va_E), a ∉ sel → (cW ad ca L X Y)[a]? = some q → ¬ va_A (cW (fun j => ad (selF sel j)) (fun j => ca (sel.getD j 0)) Lc (sb sel X) (sb sel Y)) H.size q.1 := by
    intro a q hc hq hA9
    rcases hA9 with ⟨k, e9, hk9⟩ | hk9
    · have h8 := (sel_world (D := D) (ad := ad) (ca := ca) (X := X) (Y := Y) hs).1 k _ hk9
      have h9 := hD.1 _ _ _ _ hq h8 rfl
      have hkl : k < sel.length := by rw [s1]; have := lt_of_get hk9; rwa [cW_len] at this
      rw [getD_get hkl] at h9
      exact hc (h9 ▸ List.getElem_mem hkl)
    · exact absurd (va_at_lt hP hq) (by omega)
  have hfree : ∀ q, va_A (cW (fun j => ad (selF sel j)) (fun j => ca (sel.getD j 0)) Lc (sb sel X) (sb sel Y)) H.size q → A q := by
    intro q hq
    rcases hq with ⟨k, e9, hk9⟩ | hq
    · exact hD.2 _ _ ((sel_world (D := D) (ad := ad) (ca := ca) (X := X) (Y := Y) hs).1 k _ hk9)
    · exact hA q hq
  refine ⟨ad2, ca2, f1, fun a q hq => ?_, ?_, fun i j p q hi hj hpq => ?_, fun a q hq => ?_⟩
  · rcases cases2 a q hq with ⟨k, -, -, h⟩ | ⟨-, hc, h⟩
    · exact hP3 k q h
    · exact (hP a q h).kept (hk _ (va_at_lt hP h) (old a q hc h))
  · refine ⟨hK.1, fun k q hk9 => ?_⟩
    obtain ⟨a, t, n, hL, rfl⟩ := cT_in (List.mem_of_getElem? hk9)
    have ha := lt_of_get hL
    have h5 := b5 a ha
    rw [hL] at h5
    have fin : ∀ k, k < Lc2.length → bkN sel L.length k = a → (∃ s9, Lc2[k]? = some s9 ∧ rnS (bkN sel L.length) s9 = .inr (t, n)) → ArrOfT U (ca2 a) (tyT t) ∧ va_RA U (ca2 a) (tyT t) := by
      intro k hk hbk ⟨s9, hs9, hr9⟩
      cases s9 with
      | inl o => obtain ⟨c9, l9⟩ := o; cases hr9
      | inr q9 =>
        cases hr9
        obtain ⟨t0, ht⟩ := cT_at (ca := ca3) hs9
        have h7 := f3 k hk
        rw [hbk] at h7
        rw [h7]
        exact hK3.2 t0 _ ht
    by_cases hl : a < L.length
    · rw [if_pos hl] at h5
      by_cases hc : a ∈ sel
      · rw [if_pos (by simpa using hc)] at h5
        obtain ⟨g1, g2⟩ := get_of_idx hc
        exact fin (sel.idxOf a) (by omega) (by rw [bkN, if_neg (by omega), if_pos g1, g2]) (Option.map_eq_some_iff.mp h5.symm)
      · rw [if_neg (by simpa using hc)] at h5
        obtain ⟨t0, ht⟩ := cT_at (ca := ca) h5.symm
        rw [f1.2.1 a hl]
        exact hK.2 t0 _ ht
    · rw [if_neg hl] at h5
      obtain ⟨s9, hs9, hr9⟩ := Option.map_eq_some_iff.mp h5.symm
      have hlt := lt_of_get hs9
      exact fin _ hlt (by rw [bkN, if_neg (by omega), if_neg (by omega)]; omega) ⟨s9, hs9, hr9⟩
  · rcases cases2 i p hi with ⟨k1, g1, l1, h1⟩ | ⟨l1, c1, h1⟩
    · rcases cases2 j q hj with ⟨k2, g2, l2, h2⟩ | ⟨l2, c2, h2⟩
      · have := hD3.1 k1 k2 p q h1 h2 hpq
        rw [← g1, ← g2, this]
      · exact absurd (hpq ▸ hD3.2 k1 p h1) (old j q c2 h2)
    · rcases cases2 j q hj with ⟨k2, g2, l2, h2⟩ | ⟨l2, c2, h2⟩
      · exact absurd (hpq ▸ hD3.2 k2 q h2) (old i p c1 h1)
      · exact hD.1 i j p q h1 h2 hpq
  · rcases cases2 a q hq with ⟨k, -, -, h⟩ | ⟨-, hc, h⟩
    · exact hfree _ (hD3.2 k q h)
    · exact hD.2 a q h
end Fr
