/-! the class' cells: what stands in them, and what is known ahead -/
def nC8 (b : Bool) : Nat := (LX8 b).length
theorem nC8_79 (b : Bool) : 79 ≤ nC8 b := by cases b <;> decide
theorem mg_fr {α : Type} {sel ch : List Nat} {n c : Nat} {X X3 : Nat → α} (h : ∀ i, i < sel.length → i ∉ ch → X3 i = sb sel X i) (hc : c < n) (hn : c ∉ ch.map (fun i => sel.getD i 0)) : mg sel n X X3 c = X c := by
  by_cases hs : c ∈ sel
  · have h1 := List.idxOf_lt_length_of_mem hs
    have h2 : sel.getD (sel.idxOf c) 0 = c := by
      rw [List.getD_eq_getElem?_getD, List.getElem?_eq_getElem h1, Option.getD_some, List.getElem_idxOf h1]
    rw [mg_in (sel.idxOf c) hc (by simpa using hs) rfl, h _ h1 (fun q => hn (List.mem_map.mpr ⟨_, q, h2⟩))]
    unfold sb
    rw [h2]
  · exact mg_out hc hs
/-- the same in all cells of the world -/
def Eq8 (b : Bool) (X X' : HX) (Y Y' : HY) : Prop := ∀ c, c < nC8 b → X' c = X c ∧ Y' c = Y c
theorem Eq8.rfl {b : Bool} {X : HX} {Y : HY} : Eq8 b X X Y Y := fun _ _ => ⟨Eq.refl _, Eq.refl _⟩
theorem Eq8.trans {b : Bool} {X X1 X2 : HX} {Y Y1 Y2 : HY} (h : Eq8 b X X1 Y Y1) (k : Eq8 b X1 X2 Y1 Y2) : Eq8 b X X2 Y Y2 := fun c hc => ⟨(k c hc).1.trans (h c hc).1, (k c hc).2.trans (h c hc).2⟩
theorem Eq8.mg {b : Bool} {X : HX} {Y : HY} (sel : List Nat) : Eq8 b X (mg sel (LX8 b).length X (sb sel X)) Y (mg sel (LX8 b).length Y (sb sel Y)) := fun _ hc => ⟨mg_sb hc, mg_sb hc⟩
/-- what is told, and the list, stay; what is known may change -/
def Kp (b : Bool) (X X' : HX) (Y Y' : HY) : Prop := ∀ c, c < nC8 b → (c < 25 ∨ c = 61 ∨ 79 ≤ c) → X' c = X c ∧ Y' c = Y c
theorem Kp.rfl {b : Bool} {X : HX} {Y : HY} : Kp b X X Y Y := fun _ _ _ => ⟨Eq.refl _, Eq.refl _⟩
theorem Kp.trans {b : Bool} {X X1 X2 : HX} {Y Y1 Y2 : HY} (h : Kp b X X1 Y Y1) (k : Kp b X1 X2 Y1 Y2) : Kp b X X2 Y Y2 := fun c hc hd => ⟨(k c hc hd).1.trans (h c hc hd).1, (k c hc hd).2.trans (h c hc hd).2⟩
theorem Eq8.kp {b : Bool} {X X' : HX} {Y Y' : HY} (h : Eq8 b X X' Y Y') : Kp b X X' Y Y' := fun c hc _ => h c hc
/-- those in force, as bits -/
def fm (s : St) : Nat := bmk (sFo s) (sN s)
theorem fm_lt {s : St} (hI : SI s) : fm s < 1099511627776 := Nat.lt_of_lt_of_le (bmk_lt _ _) (Nat.le_trans (Nat.pow_le_pow_right (n := 2) (by omega) hI.2.1) (by decide : 2 ^ 40 ≤ _))
theorem rul_eq {s : St} {F F' : Nat → Bool} {a b : Nat} : ∀ {n : Nat}, (∀ k, k < n → F k = F' k) → rul s F a b n = rul s F' a b n
  | 0, _ => rfl
  | n + 1, h => by
    simp only [rul]
    rw [rul_eq (n := n) (fun k hk => h k (by omega)), h n (by omega)]
theorem fm_bit {s : St} {k : Nat} (hk : k < sN s) : (fm s).testBit k = sFo s k := by
  unfold fm; rw [bmk_bit]; simp [hk]
theorem rul_fm {s : St} {a b n : Nat} (hn : n ≤ sN s) : rul s (fun i => (fm s).testBit i) a b n = rul s (sFo s) a b n := rul_eq (fun k hk => fm_bit (by omega))
theorem kd_eq {s : St} {F F' : Nat → Bool} {a b : Nat} (h : ∀ k, k < sN s → F k = F' k) : kd s F a b = kd s F' a b := by
  unfold kd; rw [rul_eq h]
theorem mt_eq {s : St} {F F' : Nat → Bool} (h : ∀ k, k < sN s → F k = F' k) : mt s F = mt s F' := by
  funext v
  unfold mt
  congr 1
  have : (fun u => (u != v) && (kd s F v u == 0)) = (fun u => (u != v) && (kd s F' v u == 0)) := funext fun u => by rw [kd_eq h]
  rw [this]
theorem ops_eq {s : St} {F F' : Nat → Bool} (h : ∀ k, k < sN s → F k = F' k) : ops s F = ops s F' := by
  unfold ops
  have : (fun p : Nat × Nat => kd s F p.1 p.2 == 2) = (fun p => kd s F' p.1 p.2 == 2) := funext fun p => by rw [kd_eq h]
  rw [this]
/-- who has met whom -/
def Ms (s : St) : Nat → Nat := mt s (sFo s)
theorem Ms_gm {s : St} (hI : SI s) : GM 10 (Ms s) := mt_gm hI
theorem Ms_sym {s : St} (hI : SI s) : ∀ a b, Eo (Ms s) a b → Eo (Ms s) b a := fun a b e => (Ms_gm hI a b e).2.2.2
theorem Ms_irr {s : St} (hI : SI s) : ∀ a, ¬ Eo (Ms s) a a := fun a e => (Ms_gm hI a a e).2.2.1 rfl
theorem Ms_bd {s : St} : ∀ i j, Eo (Ms s) i j → i < sG s ∧ j < sG s := fun i j e => ⟨(mt_eo.mp e).1, (mt_eo.mp e).2.1⟩
theorem Ms_lt {s : St} (hI : SI s) (v : Nat) : Ms s v < 512 := mt_lt hI v
/-- pairs as they are known -/
def PKo (X : HX) (Y : HY) (s : St) : Prop := RV 28 X s (sFo s) (sN s) ∧ (∀ i, i < 10 → Y 34 i = lN (Ms s i)) ∧ X 25 2 = nI (ops s (sFo s)).length ∧ OV X 26 27 (ops s (sFo s)) 8
noncomputable def sm (s : St) : Nat := mN (Ms s) (sG s)
noncomputable def so (s : St) : Nat → Nat := mo (Ms s) (sG s)
abbrev S41 : List Nat := [41, 42, 43, 44, 45, 46, 47, 48]
abbrev S49 : List Nat := [49, 50, 51, 52, 53, 54, 55, 56]
def P0 : Nat → Nat := fun _ => 0
/-- MOMENTS and orders as they are known -/
def LKo (X : HX) (s : St) : Prop := CV (sb S41 X) (sm s) (so s) P0 ∧ (ldP (sm s) (so s) P0 → ∃ le, LsP (sm s) (mayG (so s) (sm s) P0) le ∧ LeV (sb S41 X) (sm s) le)
/-- the orders that were told -/
def ahL (s : St) : List (Nat × Nat) := (prL (sG s)).filterMap (fun p => match rul s (sFo s) p.1 p.2 (sN s) with
  | none => none
  | some k => if sWd s k = 3 then some (sFi s k, sSe s k) else none)
noncomputable def ahP (s : St) : Nat → Nat := (ahL s).foldl (fun P p => ordP (so s) P (sm s) p.1 p.2) P0
def OKo (X : HX) (s : St) : Prop := CV (sb S49 X) (sm s) (so s) (ahP s)
/-- a flag: known, and then it holds -/
def Fl (X : HX) (c i : Nat) (P : Prop) : Prop := X c i = nI 0 ∨ (X c i = nI 1 ∧ P)
/-- a place that a query may use: what the class holds -/
def Qv (CK : HX → St → Prop) (S1 S2 : HX → St → Prop) (X : HX) (Y : HY) (s : St) : Prop :=
  SI s ∧ BV 9 X s ∧ Y 9 2 = lN (fm s) ∧ (X 33 2 = nI 10 ∧ X 37 2 = nI 10) ∧ PV (sb S41 X) P0 ∧
  Fl X 25 3 (PKo X Y s) ∧ Fl X 41 4 (X 25 3 = nI 1 ∧ LKo X s) ∧ Fl X 49 4 (X 41 4 = nI 1 ∧ OKo X s) ∧ Fl X 65 6 (X 41 4 = nI 1 ∧ CK X s) ∧ Fl X 76 0 (S1 X s) ∧ Fl X 77 0 (S2 X s)
theorem CV_c {X X' : HX} {m : Nat} {mo P : Nat → Nat} (h : CV X m mo P) (h0 : X' 0 3 = X 0 3) (e1 : X' 1 = X 1) (e4 : X' 4 = X 4) (e5 : X' 5 = X 5) (e7 : X' 7 = X 7) : CV X' m mo P := by
  unfold CV LV PV B5 at h ⊢
  rw [h0, e1, e4, e5, e7]
  exact h
theorem nI01 : ¬ nI 0 = nI 1 := by decide
theorem Fl.mono {X X' : HX} {c i : Nat} {P P' : Prop} (h : Fl X c i P) (e : X' c i = X c i) (f : P → P') : Fl X' c i P' := by
  unfold Fl at h ⊢
  rw [e]
  exact h.imp id (fun q => ⟨q.1, f q.2⟩)
theorem Fl.no {X X' : HX} {c i d j : Nat} {P P' : Prop} (h : Fl X c i (X d j = nI 1 ∧ P)) (h0 : X d j = nI 0) (e : X' c i = X c i) : Fl X' c i P' := by
  rcases h with h | ⟨-, q, -⟩
  · exact Or.inl (e.trans h)
  · exact absurd (h0.symm.trans q) nI01
theorem Fl.get {X : HX} {c i : Nat} {P : Prop} (h : Fl X c i P) (e : X c i = nI 1) : P := by
  rcases h with h | ⟨-, q⟩
  · exact absurd (h.symm.trans e) nI01
  · exact q
/-- a known thing stands in its cells alone -/
def InC (lo hi : Nat) (P : HX → St → Prop) : Prop := ∀ X X' s, (∀ c, lo ≤ c → c ≤ hi → X' c = X c) → P X s → P X' s
theorem PKo.of {X X' : HX} {Y Y' : HY} {s : St} (h : PKo X Y s) (e1 : X' 25 2 = X 25 2) (e2 : X' 26 = X 26) (e3 : X' 27 = X 27) (e4 : X' 28 = X 28) (e5 : Y' 34 = Y 34) : PKo X' Y' s := by
  unfold PKo RV OV at h ⊢
  rw [e1, e2, e3, e4, e5]; exact h
theorem LKo.of {X X' : HX} {s : St} (h : LKo X s) (h0 : X' 41 3 = X 41 3) (e : ∀ c, 41 < c → c ≤ 48 → X' c = X c) : LKo X' s := by
  refine ⟨CV_c h.1 h0 (e 42 (by omega) (by omega)) (e 45 (by omega) (by omega)) (e 46 (by omega) (by omega)) (e 48 (by omega) (by omega)), fun q => ?_⟩
  · obtain ⟨le, q1, q2⟩ := h.2 q
    refine ⟨le, q1, ?_⟩
    unfold LeV at q2 ⊢
    rw [show sb S41 X' 2 = sb S41 X 2 from e 43 (by omega) (by omega)]; exact q2
theorem OKo.of {X X' : HX} {s : St} (h : OKo X s) (h0 : X' 49 3 = X 49 3) (e : ∀ c, 49 < c → c ≤ 56 → X' c = X c) : OKo X' s :=
  CV_c h h0 (e 50 (by omega) (by omega)) (e 53 (by omega) (by omega)) (e 54 (by omega) (by omega)) (e 56 (by omega) (by omega))
section St8
variable {CK S1 S2 : HX → St → Prop} {X X' : HX} {Y Y' : HY} {s : St} {b : Bool} {Q : Qt}
theorem Qv.of (hC : InC 65 75 CK) (h1 : InC 76 76 S1) (h2 : InC 77 77 S2) (h : Qv CK S1 S2 X Y s) (e : ∀ c, c < 79 → X' c = X c ∧ Y' c = Y c) : Qv CK S1 S2 X' Y' s := by
  obtain ⟨q1, q2, q3, q4, q5, q6, q7, q8, q9, q10, q11⟩ := h
  have ex : ∀ c, c < 79 → X' c = X c := fun c hc => (e c hc).1
  have ey : ∀ c, c < 79 → Y' c = Y c := fun c hc => (e c hc).2
  have xx : ∀ c i, c < 79 → X' c i = X c i := fun c i hc => by rw [ex c hc]
  refine ⟨q1, q2.of (fun c z1 z2 => ex c (by omega)), by rw [ey 9 (by omega)]; exact q3, ⟨by rw [xx 33 2 (by omega)]; exact q4.1, by rw [xx 37 2 (by omega)]; exact q4.2⟩, ?_, ?_, ?_, ?_, ?_, ?_, ?_⟩
  · intro k hk
    have : sb S41 X' 4 = sb S41 X 4 := ex 45 (by omega)
    rw [this]; exact q5 k hk
  · exact q6.mono (xx _ _ (by omega)) (fun z => z.of (xx _ _ (by omega)) (ex _ (by omega)) (ex _ (by omega)) (ex _ (by omega)) (ey _ (by omega)))
  · exact q7.mono (xx _ _ (by omega)) (fun z => ⟨by rw [xx 25 3 (by omega)]; exact z.1, z.2.of (xx _ _ (by omega)) (fun c z1 z2 => ex c (by omega))⟩)
  · exact q8.mono (xx _ _ (by omega)) (fun z => ⟨by rw [xx 41 4 (by omega)]; exact z.1, z.2.of (xx _ _ (by omega)) (fun c z1 z2 => ex c (by omega))⟩)
  · exact q9.mono (xx _ _ (by omega)) (fun z => ⟨by rw [xx 41 4 (by omega)]; exact z.1, hC X X' s (fun c z1 z2 => ex c (by omega)) z.2⟩)
  · exact q10.mono (xx _ _ (by omega)) (fun z => h1 X X' s (fun c z1 z2 => ex c (by omega)) z)
  · exact q11.mono (xx _ _ (by omega)) (fun z => h2 X X' s (fun c z1 z2 => ex c (by omega)) z)
theorem Qv.eq8 (hC : InC 65 75 CK) (h1 : InC 76 76 S1) (h2 : InC 77 77 S2) (h : Qv CK S1 S2 X Y s) (e : Eq8 b X X' Y Y') : Qv CK S1 S2 X' Y' s := h.of hC h1 h2 (fun c hc => e c (by have := nC8_79 b; omega))
/-- pairs are known now -/
theorem Qv.pairs (hC : InC 65 75 CK) (h1 : InC 76 76 S1) (h2 : InC 77 77 S2) (h : Qv CK S1 S2 X Y s) (h0 : X 25 3 = nI 0) (ex : ∀ c, c < 79 → c ∉ [25, 26, 27, 28] → X' c = X c) (ey : ∀ c, c < 79 → c ≠ 34 → Y' c = Y c) (hk : PKo X' Y' s) (e1 : X' 25 3 = nI 1) : Qv CK S1 S2 X' Y' s := by
  obtain ⟨q1, q2, q3, q4, q5, q6, q7, q8, q9, q10, q11⟩ := h
  have x0 : ∀ c, c < 79 → (c < 25 ∨ 28 < c) → X' c = X c := fun c hc hd => ex c hc (by simp; omega)
  have xx : ∀ c i, c < 79 → (c < 25 ∨ 28 < c) → X' c i = X c i := fun c i hc hd => by rw [x0 c hc hd]
  have hl : X 41 4 = nI 0 := by
    rcases q7 with z | ⟨-, z, -⟩
    · exact z
    · exact absurd (h0.symm.trans z) nI01
  refine ⟨q1, q2.of (fun c z1 z2 => x0 c (by omega) (by omega)), by rw [ey 9 (by omega) (by omega)]; exact q3, ⟨by rw [xx 33 2 (by omega) (by omega)]; exact q4.1, by rw [xx 37 2 (by omega) (by omega)]; exact q4.2⟩, ?_, Or.inr ⟨e1, hk⟩, q7.no h0 (xx _ _ (by omega) (by omega)), q8.no hl (xx _ _ (by omega) (by omega)), q9.no hl (xx _ _ (by omega) (by omega)), ?_, ?_⟩
  · intro k hk
    have : sb S41 X' 4 = sb S41 X 4 := x0 45 (by omega) (by omega)
    rw [this]; exact q5 k hk
  · exact q10.mono (xx _ _ (by omega) (by omega)) (fun z => h1 X X' s (fun c z1 z2 => x0 c (by omega) (by omega)) z)
  · exact q11.mono (xx _ _ (by omega) (by omega)) (fun z => h2 X X' s (fun c z1 z2 => x0 c (by omega) (by omega)) z)
/-- MOMENTS and orders are known now -/
theorem Qv.lays (hC : InC 65 75 CK) (h1 : InC 76 76 S1) (h2 : InC 77 77 S2) (h : Qv CK S1 S2 X Y s) (h0 : X 41 4 = nI 0) (hp : X 25 3 = nI 1) (ex : ∀ c, c < 79 → (c < 41 ∨ 48 < c) → X' c = X c) (ey : ∀ c, c < 79 → Y' c = Y c) (hk : LKo X' s) (e1 : X' 41 4 = nI 1) : Qv CK S1 S2 X' Y' s := by
  obtain ⟨q1, q2, q3, q4, q5, q6, q7, q8, q9, q10, q11⟩ := h
  have xx : ∀ c i, c < 79 → (c < 41 ∨ 48 < c) → X' c i = X c i := fun c i hc hd => by rw [ex c hc hd]
  refine ⟨q1, q2.of (fun c z1 z2 => ex c (by omega) (by omega)), by rw [ey 9 (by omega)]; exact q3, ⟨by rw [xx 33 2 (by omega) (by omega)]; exact q4.1, by rw [xx 37 2 (by omega) (by omega)]; exact q4.2⟩, hk.1.2.1, ?_, Or.inr ⟨e1, by rw [xx 25 3 (by omega) (by omega)]; exact hp, hk⟩, q8.no h0 (xx _ _ (by omega) (by omega)), q9.no h0 (xx _ _ (by omega) (by omega)), ?_, ?_⟩
  · exact q6.mono (xx _ _ (by omega) (by omega)) (fun z => z.of (xx _ _ (by omega) (by omega)) (ex _ (by omega) (by omega)) (ex _ (by omega) (by omega)) (ex _ (by omega) (by omega)) (ey _ (by omega)))
  · exact q10.mono (xx _ _ (by omega) (by omega)) (fun z => h1 X X' s (fun c z1 z2 => ex c (by omega) (by omega)) z)
  · exact q11.mono (xx _ _ (by omega) (by omega)) (fun z => h2 X X' s (fun c z1 z2 => ex c (by omega) (by omega)) z)
theorem X8_pairs_s (hC : InC 65 75 CK) (h1 : InC 76 76 S1) (h2 : InC 77 77 S2) (h : Qv CK S1 S2 X Y s) (k : ∀ X' Y', Kp b X X' Y Y' → (∀ c, c < nC8 b → 41 ≤ c → X' c = X c ∧ Y' c = Y c) → Qv CK S1 S2 X' Y' s → X' 25 3 = nI 1 → PKo X' Y' s → Q (.inl none) (LX8 b) X' Y') : tX8_settlePairs b [.ref 0] (LX8 b) X Y Q := by
  have hN := nC8_79 b
  obtain ⟨q1, q2, q3, q4, q5, q6, q7, q8, q9, q10, q11⟩ := id h
  apply tX8_settlePairs_i
  refine ⟨fun h0 => ?_, fun h0 => ?_⟩
  · have h0 : X 25 3 = nI 0 := h0
    rw [q3]
    refine X5_settle_s (r := []) (s := s) q1 q2 (fm_lt q1) (fun X3 f3 r3 => cS0_mk ?_)
    have ln : (LX8 b).length = nC8 b := rfl
    rw [ln]
    -- the rulers
    have fa : ∀ c, c < nC8 b → c ≠ 28 → mg [25, 26, 27, 28, 9, 10, 11, 12, 13, 14, 15, 16] (nC8 b) X X3 c = X c := fun c hc hd => mg_fr (ch := [3]) (fun i _ hi => f3 i (fun e => hi (by simp [e]))) hc (by simpa using hd)
    have ya : ∀ c, c < nC8 b → mg [25, 26, 27, 28, 9, 10, 11, 12, 13, 14, 15, 16] (nC8 b) Y (sb [25, 26, 27, 28, 9, 10, 11, 12, 13, 14, 15, 16] Y) c = Y c := fun c hc => mg_sb hc
    have ra : mg [25, 26, 27, 28, 9, 10, 11, 12, 13, 14, 15, 16] (nC8 b) X X3 28 = X3 3 := mg_in 3 (by omega) rfl rfl
    have rv : RV 28 (mg [25, 26, 27, 28, 9, 10, 11, 12, 13, 14, 15, 16] (nC8 b) X X3) s (sFo s) (sN s) := fun x y hx hy => by
      rw [ra, r3 x y hx hy, rul_fm (Nat.le_refl _)]
    revert fa ya rv
    generalize mg [25, 26, 27, 28, 9, 10, 11, 12, 13, 14, 15, 16] (nC8 b) X X3 = Xa
    generalize mg [25, 26, 27, 28, 9, 10, 11, 12, 13, 14, 15, 16] (nC8 b) Y (sb [25, 26, 27, 28, 9, 10, 11, 12, 13, 14, 15, 16] Y) = Ya
    intro fa ya rv
    have ba : BV 9 Xa s := q2.of (fun c z1 z2 => fa c (by omega) (by omega))
    refine X5_tell_s (s := s) (F := sFo s) q1 ba rv (by show Xa 33 2 = nI 10; rw [fa 33 (by omega) (by omega)]; exact q4.1) (fun X4 Y4 f4 g4 m4 => cS0_mk ?_)
    have fb : ∀ c, c < nC8 b → mg [25, 26, 27, 28, 9, 10, 11, 12, 13, 14, 15, 16, 33, 34, 35, 36] (nC8 b) Xa X4 c = Xa c := fun c hc => mg_fr (ch := []) (fun i hi _ => f4 i hi) hc (by simp)
    have yb : ∀ c, c < nC8 b → c ≠ 34 → mg [25, 26, 27, 28, 9, 10, 11, 12, 13, 14, 15, 16, 33, 34, 35, 36] (nC8 b) Ya Y4 c = Ya c := fun c hc hd => mg_fr (ch := [13]) (fun i hi hj => g4 i hi (fun e => hj (by simp [e]))) hc (by simpa using hd)
    have mb : mg [25, 26, 27, 28, 9, 10, 11, 12, 13, 14, 15, 16, 33, 34, 35, 36] (nC8 b) Ya Y4 34 = Y4 13 := mg_in 13 (by omega) rfl rfl
    revert fb yb mb
    generalize mg [25, 26, 27, 28, 9, 10, 11, 12, 13, 14, 15, 16, 33, 34, 35, 36] (nC8 b) Xa X4 = Xb
    generalize mg [25, 26, 27, 28, 9, 10, 11, 12, 13, 14, 15, 16, 33, 34, 35, 36] (nC8 b) Ya Y4 = Yb
    intro fb yb mb
    have bb : BV 9 Xb s := ba.of (fun c z1 z2 => fb c (by omega))
    have rb : RV 28 Xb s (sFo s) (sN s) := fun x y hx hy => by rw [fb 28 (by omega)]; exact rv x y hx hy
    refine X5_findOpen_s (r := []) (s := s) (F := sFo s) q1 bb rb (fun X5 f5 g5 n5 o5 => cS0_mk ⟨(by first | exact Or.inl rfl | exact Or.inr rfl | exact Or.inl trivial | exact Or.inr trivial), ?_⟩)
    have fc : ∀ c, c < nC8 b → c ∉ [25, 26, 27] → mg [25, 26, 27, 28, 9, 10, 11, 12, 13, 14, 15, 16] (nC8 b) Xb X5 c = Xb c := fun c hc hd => mg_fr (ch := [0, 1, 2]) (fun i _ hj => f5 i (fun e => hj (by simp [e])) (fun e => hj (by simp [e])) (fun e => hj (by simp [e]))) hc (by simpa using hd)
    have yc : ∀ c, c < nC8 b → mg [25, 26, 27, 28, 9, 10, 11, 12, 13, 14, 15, 16] (nC8 b) Yb (sb [25, 26, 27, 28, 9, 10, 11, 12, 13, 14, 15, 16] Yb) c = Yb c := fun c hc => mg_sb hc
    have c0 : mg [25, 26, 27, 28, 9, 10, 11, 12, 13, 14, 15, 16] (nC8 b) Xb X5 25 = X5 0 := mg_in 0 (by omega) rfl rfl
    have c1 : mg [25, 26, 27, 28, 9, 10, 11, 12, 13, 14, 15, 16] (nC8 b) Xb X5 26 = X5 1 := mg_in 1 (by omega) rfl rfl
    have c2 : mg [25, 26, 27, 28, 9, 10, 11, 12, 13, 14, 15, 16] (nC8 b) Xb X5 27 = X5 2 := mg_in 2 (by omega) rfl rfl
    revert fc yc c0 c1 c2
    generalize mg [25, 26, 27, 28, 9, 10, 11, 12, 13, 14, 15, 16] (nC8 b) Xb X5 = Xc
    generalize mg [25, 26, 27, 28, 9, 10, 11, 12, 13, 14, 15, 16] (nC8 b) Yb (sb [25, 26, 27, 28, 9, 10, 11, 12, 13, 14, 15, 16] Yb) = Yc
    intro fc yc c0 c1 c2
    have fx : ∀ c, c < nC8 b → c ∉ [25, 26, 27, 28] → up2 Xc 25 3 (nI 1) c = X c := fun c hc hd => by
      simp only [List.mem_cons, List.not_mem_nil, or_false, not_or] at hd
      rw [up2_row hd.1, fc c hc (by simp; omega), fb c hc, fa c hc hd.2.2.2]
    have fy : ∀ c, c < nC8 b → c ≠ 34 → Yc c = Y c := fun c hc hd => by rw [yc c hc, yb c hc hd, ya c hc]
    have hk : PKo (up2 Xc 25 3 (nI 1)) Yc s := by
      refine ⟨fun x y hx hy => ?_, fun i hi => ?_, ?_, fun t p ht hp => ?_⟩
      · rw [up2_out (by omega), fc 28 (by omega) (by simp)]; exact rb x y hx hy
      · rw [yc 34 (by omega), mb]; exact m4 i hi
      · rw [up2_idx (by omega), c0]; exact n5
      · rw [up2_out (by omega), up2_out (by omega), c1, c2]; exact o5 t p ht hp
    refine k _ _ (fun c hc hd => ⟨fx c hc (by simp; omega), fy c hc (by omega)⟩) (fun c hc hd => ⟨fx c hc (by simp; omega), fy c hc (by omega)⟩) (h.pairs hC h1 h2 h0 (fun c hc hd => fx c (by omega) hd) (fun c hc hd => fy c (by omega) hd) hk up2_same) up2_same hk
  · have e1 : X 25 3 = nI 1 := by
      rcases q6 with z | z
      · exact absurd z h0
      · exact z.1
    exact k X Y Kp.rfl (fun _ _ _ => ⟨rfl, rfl⟩) h e1 (q6.get e1)
theorem X8_lays_s (hC : InC 65 75 CK) (h1 : InC 76 76 S1) (h2 : InC 77 77 S2) (h : Qv CK S1 S2 X Y s) (k : ∀ X' Y', Kp b X X' Y Y' → (∀ c, c < nC8 b → 49 ≤ c → X' c = X c ∧ Y' c = Y c) → Qv CK S1 S2 X' Y' s → X' 41 4 = nI 1 → PKo X' Y' s → LKo X' s → Q (.inl none) (LX8 b) X' Y') : tX8_settleLaying b [.ref 0] (LX8 b) X Y Q := by
  have hN := nC8_79 b
  have ln : (LX8 b).length = nC8 b := rfl
  apply tX8_settleLaying_i
  refine ⟨fun h0 => ?_, fun h0 => ?_⟩
  · have h0 : X 41 4 = nI 0 := h0
    refine X8_pairs_s hC h1 h2 h (fun X2 Y2 kp2 fr2 h2' p2 pk2 => cK0_mk ?_)
    obtain ⟨q1, q2, q3, q4, q5, q6, q7, q8, q9, q10, q11⟩ := id h2'
    have h02 : X2 41 4 = nI 0 := by rw [(fr2 41 (by omega) (by omega)).1]; exact h0
    rw [q2.1]
    refine X3_moms_s (r := []) (M := Ms s) (G := sG s) q1.1 (fun i hi => pk2.2.1 i hi) Ms_bd (Ms_sym q1) (Ms_irr q1) (fun X3 f3 g3 v3 => cS0_mk ?_)
    rw [ln]
    have fa : ∀ c, c < nC8 b → c ∉ [41, 42, 46] → mg [41, 42, 43, 44, 45, 46, 47, 48, 33, 34, 35, 36] (nC8 b) X2 X3 c = X2 c := fun c hc hd => mg_fr (ch := [0, 1, 5]) (fun i _ hj => f3 i (fun e => hj (by simp [e])) (fun e => hj (by simp [e])) (fun e => hj (by simp [e]))) hc (by simpa using hd)
    have ya : ∀ c, c < nC8 b → mg [41, 42, 43, 44, 45, 46, 47, 48, 33, 34, 35, 36] (nC8 b) Y2 (sb [41, 42, 43, 44, 45, 46, 47, 48, 33, 34, 35, 36] Y2) c = Y2 c := fun c hc => mg_sb hc
    have a0 : mg [41, 42, 43, 44, 45, 46, 47, 48, 33, 34, 35, 36] (nC8 b) X2 X3 41 = X3 0 := mg_in 0 (by omega) rfl rfl
    have a1 : mg [41, 42, 43, 44, 45, 46, 47, 48, 33, 34, 35, 36] (nC8 b) X2 X3 42 = X3 1 := mg_in 1 (by omega) rfl rfl
    revert fa ya a0 a1
    generalize mg [41, 42, 43, 44, 45, 46, 47, 48, 33, 34, 35, 36] (nC8 b) X2 X3 = Xa
    generalize mg [41, 42, 43, 44, 45, 46, 47, 48, 33, 34, 35, 36] (nC8 b) Y2 (sb [41, 42, 43, 44, 45, 46, 47, 48, 33, 34, 35, 36] Y2) = Ya
    intro fa ya a0 a1
    have va : LV (sb S41 Xa) (sm s) (so s) := by
      refine ⟨v3.1, ?_, fun t ht => ?_⟩
      · show Xa 41 3 = _; rw [a0]; exact v3.2.1
      · show Xa 42 t = _ ∧ _; rw [a1]; exact v3.2.2 t ht
    have pa : PV (sb S41 Xa) P0 := fun t ht => by
      show Xa 45 t = _ ∧ _
      rw [fa 45 (by omega) (by simp)]; exact q5 t ht
    refine X3_find_s (r := []) va pa (fun X4 f4 c4 => cS0_mk ?_)
    have fb : ∀ c, c < nC8 b → c ∉ [46, 47, 48] → mg S41 (nC8 b) Xa X4 c = Xa c := fun c hc hd => mg_fr (ch := [5, 6, 7]) (fun i _ hj => f4 i (fun e => hj (by simp [e])) (fun e => hj (by simp [e])) (fun e => hj (by simp [e]))) hc (by simpa using hd)
    have yb : ∀ c, c < nC8 b → mg S41 (nC8 b) Ya (sb S41 Ya) c = Ya c := fun c hc => mg_sb hc
    have c0 : mg S41 (nC8 b) Xa X4 41 = X4 0 := mg_in 0 (by omega) rfl rfl
    have cb : CV (sb S41 (mg S41 (nC8 b) Xa X4)) (sm s) (so s) P0 := CV_c c4 (by show mg S41 (nC8 b) Xa X4 41 3 = _; rw [c0]) (show mg S41 (nC8 b) Xa X4 42 = X4 1 from mg_in 1 (by omega) rfl rfl) (show mg S41 (nC8 b) Xa X4 45 = X4 4 from mg_in 4 (by omega) rfl rfl) (show mg S41 (nC8 b) Xa X4 46 = X4 5 from mg_in 5 (by omega) rfl rfl) (show mg S41 (nC8 b) Xa X4 48 = X4 7 from mg_in 7 (by omega) rfl rfl)
    clear c0
    revert fb yb cb
    generalize mg S41 (nC8 b) Xa X4 = Xb
    generalize mg S41 (nC8 b) Ya (sb S41 Ya) = Yb
    intro fb yb cb
    refine X3_least_s (r := []) cb (fun X5 f5 l5 => cS0_mk ⟨(by first | exact Or.inl rfl | exact Or.inr rfl | exact Or.inl trivial | exact Or.inr trivial), ?_⟩)
    have fc : ∀ c, c < nC8 b → c ≠ 43 → mg S41 (nC8 b) Xb X5 c = Xb c := fun c hc hd => mg_fr (ch := [2]) (fun i _ hi => f5 i (fun e => hi (by simp [e]))) hc (by simpa using hd)
    have yc : ∀ c, c < nC8 b → mg S41 (nC8 b) Yb (sb S41 Yb) c = Yb c := fun c hc => mg_sb hc
    have c2 : mg S41 (nC8 b) Xb X5 43 = X5 2 := mg_in 2 (by omega) rfl rfl
    revert fc yc c2
    generalize mg S41 (nC8 b) Xb X5 = Xc
    generalize mg S41 (nC8 b) Yb (sb S41 Yb) = Yc
    intro fc yc c2
    have fx : ∀ c, c < nC8 b → (c < 41 ∨ 48 < c) → up2 Xc 41 4 (nI 1) c = X2 c := fun c hc hd => by
      rw [up2_row (by omega), fc c hc (by omega), fb c hc (by simp; omega), fa c hc (by simp; omega)]
    have fy : ∀ c, c < nC8 b → Yc c = Y2 c := fun c hc => by rw [yc c hc, yb c hc, ya c hc]
    have hk : LKo (up2 Xc 41 4 (nI 1)) s := by
      have cc : ∀ c, c < nC8 b → c ≠ 41 → c ≠ 43 → up2 Xc 41 4 (nI 1) c = Xb c := fun c hc h1 h2 => by rw [up2_row h1, fc c hc h2]
      refine ⟨CV_c cb ?_ (cc 42 (by omega) (by omega) (by omega)) (cc 45 (by omega) (by omega) (by omega)) (cc 46 (by omega) (by omega) (by omega)) (cc 48 (by omega) (by omega) (by omega)), fun q => ?_⟩
      · show up2 Xc 41 4 (nI 1) 41 3 = Xb 41 3
        rw [up2_idx (by omega), fc 41 (by omega) (by omega)]
      · obtain ⟨le, l1, l2⟩ := l5 q
        refine ⟨le, l1, fun p hp => ?_⟩
        show up2 Xc 41 4 (nI 1) 43 p = _
        rw [up2_out (by omega), c2]; exact l2 p hp
    have pk : PKo (up2 Xc 41 4 (nI 1)) Yc s := pk2.of (by rw [fx 25 (by omega) (by omega)]) (fx 26 (by omega) (by omega)) (fx 27 (by omega) (by omega)) (fx 28 (by omega) (by omega)) (fy 34 (by omega))
    refine k _ _ (kp2.trans (fun c hc hd => ⟨fx c hc (by omega), fy c hc⟩)) (fun c hc hd => ⟨(fx c hc (by omega)).trans (fr2 c hc (by omega)).1, (fy c hc).trans (fr2 c hc (by omega)).2⟩) (h2'.lays hC h1 h2 h02 p2 (fun c hc hd => fx c (by omega) hd) (fun c hc => fy c (by omega)) hk up2_same) up2_same pk hk
  · obtain ⟨q1, q2, q3, q4, q5, q6, q7, q8, q9, q10, q11⟩ := id h
    have e1 : X 41 4 = nI 1 := by
      rcases q7 with z | z
      · exact absurd z h0
      · exact z.1
    have e2 := q7.get e1
    exact k X Y Kp.rfl (fun _ _ _ => ⟨rfl, rfl⟩) h e1 (q6.get e2.1) e2.2
end St8
