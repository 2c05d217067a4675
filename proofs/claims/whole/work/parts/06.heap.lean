/-! fields and arrays of the pure machine -/
theorem cE_congr {ad : Nat → Nat} {ca : Nat → ClassId} {X X' : HX} {Y Y' : HY} {k : Nat} (hX : X' k = X k) (hY : Y' k = Y k) (s : Sh) : cE ad ca X' Y' k s = cE ad ca X Y k s := by
  unfold cE
  rw [hX, hY]
theorem cW_set {ad : Nat → Nat} {ca : Nat → ClassId} {L L' : Ly} {X X' : HX} {Y Y' : HY} {a : Nat} {s' : Sh} {e : va_E} (hL : ∀ k, k ≠ a → L'[k]? = L[k]?) (ha : L'[a]? = some s') (hlt : a < L.length) (he : cE ad ca X' Y' a s' = e)
    (hX : ∀ k, k ≠ a → X' k = X k) (hY : ∀ k, k ≠ a → Y' k = Y k) : (cW ad ca L X Y).set a (ad a, e) = cW ad ca L' X' Y' := by
  apply List.ext_getElem?
  intro k
  rw [List.getElem?_set]
  by_cases hk : a = k
  · subst hk
    rw [if_pos rfl, if_pos (by rw [cW_len]; exact hlt), cW_at ha, he]
  · have hk' : k ≠ a := fun q => hk q.symm
    rw [if_neg hk]
    simp only [cW, List.getElem?_mapIdx, hL k hk']
    cases L[k]? with
    | none => rfl
    | some s => simp only [Option.map_some]; rw [cE_congr (hX k hk') (hY k hk')]
theorem up2_ne {α : Type} {X : Nat → Nat → α} {a i k : Nat} {v : α} (h : k ≠ a) : up2 X a i v k = X k := by
  funext b
  simp [up2, h]
theorem up2_eq {α : Type} {X : Nat → Nat → α} {a i : Nat} {v : α} : up2 X a i v a = fun b => if b = i then v else X a b := by
  funext b
  simp [up2]
theorem lt_of_get {α : Type} {L : List α} {a : Nat} {x : α} (h : L[a]? = some x) : a < L.length := (List.getElem?_eq_some_iff.mp h).1
theorem cT_setO {ca : Nat → ClassId} {L : Ly} {a : Nat} {o o' : Nat × List Sk} (h : L[a]? = some (.inl o)) : cT ca (L.set a (.inl o')) = cT ca L := by
  unfold cT
  congr 1
  apply List.ext_getElem?
  intro k
  simp only [List.getElem?_mapIdx, List.getElem?_set]
  by_cases hk : a = k
  · subst hk
    rw [if_pos rfl, if_pos (lt_of_get h), h]
    rfl
  · rw [if_neg hk]
theorem cls_ok {ci N : Nat} {C : String} {T : u_T} (h : vwCl[ci]? = some (C, T, N)) : (∀ w ∈ u_ws C T N, w ∈ TG) ∧ (∀ k, k < N → parseFieldDescriptor (T k).2.2.1 = some (tyF ci k)) ∧ (∀ a, a < N → ∀ b, b < N → a ≠ b → (T a).2.1 ≠ (T b).2.1) := by
  match ci, h with
  | 0, h => cases h; exact ⟨inT0, tyX0_ok, nmX0⟩
  | 1, h => cases h; exact ⟨inT1, tyX1_ok, nmX1⟩
  | 2, h => cases h; exact ⟨inT2, tyX2_ok, nmX2⟩
  | 3, h => cases h; exact ⟨inT3, tyX3_ok, nmX3⟩
  | 4, h => cases h; exact ⟨inT4, tyX4_ok, nmX4⟩
  | 5, h => cases h; exact ⟨inT5, tyX5_ok, nmX5⟩
  | 6, h => cases h; exact ⟨inT6, tyX6_ok, nmX6⟩
  | 7, h => cases h; exact ⟨inT7, tyX7_ok, nmX7⟩
  | 8, h => cases h; exact ⟨inT8, tyX8_ok, nmX8⟩
  | 9, h => cases h; exact ⟨inT9, tyX9_ok, nmX9⟩
  | k + 10, h => simp [vwCl] at h
/-- an entry of the constant pool that names field k of class ci -/
def FldOk (own : String) (idx ci k : Nat) : Prop := ∃ C T N, vwCl[ci]? = some (C, T, N) ∧ k < N ∧ Cond.fieldLink own idx (T k).1 (T k).2.1 (T k).2.2.1 ∈ TG
def PutOk (own nm : String) (ci k : Nat) : Prop := ∀ C T N, vwCl[ci]? = some (C, T, N) → (T k).2.2.2 = false ∨ (nm = "<init>" ∧ (T k).1 = own)
theorem fdV_cv {ad : Nat → Nat} {X : HX} {Y : HY} {a j : Nat} {s : Sk} : cv ad (fdV X Y a j s) = cSk ad (X a) (Y a) j s := by
  cases s with
  | inl t =>
    simp only [fdV, cSk]
    split <;> rfl
  | inr o => cases o <;> rfl
section SndH
variable {p : Program} {l : Launch} {e : Env} {R : Room} {s : State} {m : MethodId} {args : Array Value} {below : List Frame} {meth : Method} {c : Code} {H : Heap} {locs : List Loc} {cells slots : Nat} {Q : State → Prop} {cc : ByteArray} {pc : Nat} {ls : Array Slot} {ad : Nat → Nat} {ca : Nat → ClassId} {L : Ly} {X : HX} {Y : HY} {D : va_G} {A : Nat → Prop} {own : String} {r : List Value}
theorem snd_get (hx : p.tables.exec = Jvm.exec) (hb : c.code = cc) (hts : ∀ w ∈ TG, w.before args s = true) (hown : s.vm.findClass own = some m.cls) (hK : va_K D vwCl (cT ca L) s) (hP : va_P D vwCl (cW ad ca L X Y) H)
    {a idx ci j : Nat} {sl : List Sk} {sk : Sk} (hf : FldOk own idx ci j) (hL : L[a]? = some (.inl (ci, sl))) (hs : sl[j]? = some sk) (hd : decode cc pc = .ok (.getfield idx, 3))
    (k : W p l e R s m args below meth c H locs cells slots Q (F0 m (pc + 3) ls ((fdV X Y a j sk :: r).map (cv ad)))) : W p l e R s m args below meth c H locs cells slots Q (F0 m pc ls ((.ref a :: r : List Value).map (cv ad))) := by
  obtain ⟨C, T, N, h1, h2, h3⟩ := hf
  refine va_get (D := D) (ci := ci) (v := cSk ad (X a) (Y a) j sk) (C := C) (T := T) (N := N) hx hb hts (cls_ok h1).1 hown hK hP a (cW_at hL) h1 j h2 (hts _ h3) (fun _ h9 => h9) ?_ hd ?_
  · simp [List.getElem?_mapIdx, hs]
  · rw [← fdV_cv]
    exact k
theorem snd_put (hx : p.tables.exec = Jvm.exec) (hb : c.code = cc) (hts : ∀ w ∈ TG, w.before args s = true) (hown : s.vm.findClass own = some m.cls) (hK : va_K D vwCl (cT ca L) s) (hP : va_P D vwCl (cW ad ca L X Y) H) (hD : va_D A (cW ad ca L X Y)) (hS : va_S A s.heap H locs)
    {a idx ci j : Nat} {sl : List Sk} (hf : FldOk own idx ci j) (hp : PutOk own meth.name ci j) (hL : L[a]? = some (.inl (ci, sl))) (hj : j < sl.length) {v : Value} (hn : narrow (tyF ci j) v = v) (hfit : fits (tyF ci j) v = true) (hd : decode cc pc = .ok (.putfield idx, 3))
    {L' : Ly} {X' : HX} {Y' : HY} (hw : (cW ad ca L X Y).set a (ad a, .inr (ci, (sl.mapIdx fun j s => cSk ad (X a) (Y a) j s).set j v)) = cW ad ca L' X' Y')
    (k : ∀ H1 locs1, va_P D vwCl (cW ad ca L' X' Y') H1 → va_D A (cW ad ca L' X' Y') → va_S A s.heap H1 locs1 → W p l e R s m args below meth c H1 locs1 cells slots Q (F0 m (pc + 3) ls (r.map (cv ad)))) : W p l e R s m args below meth c H locs cells slots Q (F0 m pc ls (v :: .ref (ad a) :: r.map (cv ad))) := by
  obtain ⟨C, T, N, h1, h2, h3⟩ := hf
  have hc := cls_ok h1
  rcases hp C T N h1 with hq | ⟨hq1, hq2⟩
  · exact va_put (D := D) (ci := ci) (v := v) (ty := tyF ci j) (C := C) (T := T) (N := N) hx hb hts hc.1 (tyF ci) hc.2.1 hc.2.2 hown hK hP hD hS a (cW_at hL) h1 j h2 (hts _ h3) (fun _ h9 => h9) hq (hc.2.1 j h2) hn hfit (by simpa using hj) hd (fun H1 locs1 a1 a2 a3 => k H1 locs1 (hw ▸ a1) (hw ▸ a2) a3)
  · by_cases hfin : (T j).2.2.2 = true
    · exact va_putF (D := D) (ci := ci) (v := v) (ty := tyF ci j) (C := C) (T := T) (N := N) hx hb hts hc.1 (tyF ci) hc.2.1 hc.2.2 hown hK hP hD hS a (cW_at hL) h1 j h2 (hts _ h3) (fun _ h9 => h9) hfin hq1 hq2 (hc.2.1 j h2) hn hfit (by simpa using hj) hd (fun H1 locs1 a1 a2 a3 => k H1 locs1 (hw ▸ a1) (hw ▸ a2) a3)
    · exact va_put (D := D) (ci := ci) (v := v) (ty := tyF ci j) (C := C) (T := T) (N := N) hx hb hts hc.1 (tyF ci) hc.2.1 hc.2.2 hown hK hP hD hS a (cW_at hL) h1 j h2 (hts _ h3) (fun _ h9 => h9) (by simpa using hfin) (hc.2.1 j h2) hn hfit (by simpa using hj) hd (fun H1 locs1 a1 a2 a3 => k H1 locs1 (hw ▸ a1) (hw ▸ a2) a3)
theorem cW_pX {a ci j t : Nat} {sl : List Sk} {x : Int32} (hL : L[a]? = some (.inl (ci, sl))) (hs : sl[j]? = some (.inl t)) (ht : t ≠ 1) : (cW ad ca L X Y).set a (ad a, .inr (ci, (sl.mapIdx fun j s => cSk ad (X a) (Y a) j s).set j (.int x))) = cW ad ca L (up2 X a j x) Y := by
  refine cW_set (s' := .inl (ci, sl)) (fun _ _ => rfl) hL (lt_of_get hL) ?_ (fun k hk => up2_ne hk) (fun _ _ => rfl)
  simp only [cE, up2_eq]
  congr 2
  apply List.ext_getElem?
  intro k
  rw [List.getElem?_set, List.length_mapIdx]
  by_cases hk : j = k
  · subst hk
    rw [if_pos rfl, if_pos (lt_of_get hs)]
    simp [List.getElem?_mapIdx, hs, cSk, ht]
  · rw [if_neg hk]
    simp only [List.getElem?_mapIdx]
    cases sl[k]? with
    | none => rfl
    | some s9 =>
      simp only [Option.map_some]
      cases s9 with
      | inl t9 =>
        have hk2 : ¬ k = j := fun q => hk q.symm
        simp [cSk, hk2]
      | inr o => rfl
theorem cW_pY {a ci j : Nat} {sl : List Sk} {x : Int64} (hL : L[a]? = some (.inl (ci, sl))) (hs : sl[j]? = some (.inl 1)) : (cW ad ca L X Y).set a (ad a, .inr (ci, (sl.mapIdx fun j s => cSk ad (X a) (Y a) j s).set j (.long x))) = cW ad ca L X (up2 Y a j x) := by
  refine cW_set (s' := .inl (ci, sl)) (fun _ _ => rfl) hL (lt_of_get hL) ?_ (fun _ _ => rfl) (fun k hk => up2_ne hk)
  simp only [cE, up2_eq]
  congr 2
  apply List.ext_getElem?
  intro k
  rw [List.getElem?_set, List.length_mapIdx]
  by_cases hk : j = k
  · subst hk
    rw [if_pos rfl, if_pos (lt_of_get hs)]
    simp [List.getElem?_mapIdx, hs, cSk]
  · rw [if_neg hk]
    simp only [List.getElem?_mapIdx]
    cases sl[k]? with
    | none => rfl
    | some s9 =>
      simp only [Option.map_some]
      cases s9 with
      | inl t9 =>
        have hk2 : ¬ k = j := fun q => hk q.symm
        simp [cSk, hk2]
      | inr o => rfl
theorem cW_pR {a ci j : Nat} {sl : List Sk} {o o2 : Option Nat} (hL : L[a]? = some (.inl (ci, sl))) (hs : sl[j]? = some (.inr o)) : (cW ad ca L X Y).set a (ad a, .inr (ci, (sl.mapIdx fun j s => cSk ad (X a) (Y a) j s).set j (va_rf (o2.map ad)))) = cW ad ca (L.set a (.inl (ci, sl.set j (.inr o2)))) X Y := by
  refine cW_set (s' := .inl (ci, sl.set j (.inr o2))) (fun k hk => by rw [List.getElem?_set, if_neg (fun q => hk q.symm)]) (by rw [List.getElem?_set, if_pos rfl, if_pos (lt_of_get hL)]) (lt_of_get hL) ?_ (fun _ _ => rfl) (fun _ _ => rfl)
  simp only [cE]
  congr 2
  apply List.ext_getElem?
  intro k
  rw [List.getElem?_set, List.length_mapIdx]
  simp only [List.getElem?_mapIdx, List.getElem?_set]
  by_cases hk : j = k
  · subst hk
    rw [if_pos rfl, if_pos (lt_of_get hs), if_pos rfl, if_pos (lt_of_get hs)]
    rfl
  · rw [if_neg hk, if_neg hk]
theorem cW_aX {a t n i : Nat} {x : Int32} (hL : L[a]? = some (.inr (t, n))) (ht : t ≠ 1) : (cW ad ca L X Y).set a (ad a, .inl (ca a, n, .inl (upd (X a) i x))) = cW ad ca L (up2 X a i x) Y := by
  refine cW_set (s' := .inr (t, n)) (fun _ _ => rfl) hL (lt_of_get hL) ?_ (fun k hk => up2_ne hk) (fun _ _ => rfl)
  simp only [cE, up2_eq, cC, if_neg ht]
  rfl
theorem cW_aY {a n i : Nat} {x : Int64} (hL : L[a]? = some (.inr (1, n))) : (cW ad ca L X Y).set a (ad a, .inl (ca a, n, .inr (.inl (vp_updL (Y a) i x)))) = cW ad ca L X (up2 Y a i x) := by
  refine cW_set (s' := .inr (1, n)) (fun _ _ => rfl) hL (lt_of_get hL) ?_ (fun _ _ => rfl) (fun k hk => up2_ne hk)
  simp only [cE, up2_eq, cC, if_pos]
  rfl
theorem cW_rX {a t n : Nat} (hL : L[a]? = some (.inr (t, n))) (ht : t ≠ 1) : (cW ad ca L X Y)[a]? = some (ad a, .inl (ca a, n, .inl (X a))) := by
  rw [cW_at hL]
  simp only [cE, cC, if_neg ht]
theorem cW_rY {a n : Nat} (hL : L[a]? = some (.inr (1, n))) : (cW ad ca L X Y)[a]? = some (ad a, .inl (ca a, n, .inr (.inl (Y a)))) := by
  rw [cW_at hL]
  simp only [cE, cC, if_pos]
end SndH
