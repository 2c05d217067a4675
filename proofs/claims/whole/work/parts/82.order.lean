/-! orders that were told; who is ahead, who is between: the theory -/
/-- the places of a row in an order: one stretch -/
def ivl (m : Nat) (R : Nat → Nat) (v : Nat) (o : Nat → Nat) (f l : Nat) : Prop := f ≤ l ∧ l < m ∧ ∀ i, i < m → (Bs (R v) (o i) ↔ f ≤ i ∧ i ≤ l)
section Ivl
variable {m n : Nat} {R : Nat → Nat} {o : Nat → Nat} {v : Nat}
theorem ivl_ex (hO : LayO m R n o) (hv : v < n) (hR : ∀ v, v < n → R v < 2 ^ m) (hne : ∃ j, Bs (R v) j) : ∃ f l, ivl m R v o f l := by
  obtain ⟨h1, h2, h3⟩ := hO
  have hL : LyN m (mayS R n) m o := (lay_iff hR).mpr ⟨h1, h2, h3⟩
  obtain ⟨j, hj⟩ := hne
  obtain ⟨i, hi, rfl⟩ := hL.onto (bit_lt (hR v hv) hj)
  obtain ⟨f, ⟨f1, f2⟩, f3⟩ := g_min (fun i => i < m ∧ Bs (R v) (o i)) (fun i => i) i ⟨hi, hj⟩
  obtain ⟨l, l1, l2, l3⟩ := last_ex (p := fun i => Bs (R v) (o i)) (n := m) ⟨i, hi, hj⟩
  refine ⟨f, l, Nat.le_of_not_lt (fun q => l3 f q f1 f2), l1, fun x hx => ⟨fun hb => ⟨f3 x ⟨hx, hb⟩, Nat.le_of_not_lt (fun q => l3 x q hx hb)⟩, fun ⟨q1, q2⟩ => ?_⟩⟩
  by_cases e1 : x = f
  · rw [e1]; exact f2
  · by_cases e2 : x = l
    · rw [e2]; exact l2
    · exact h3 v hv f x l (by omega) (by omega) l1 f2 l2
theorem ivl_beg {f l i : Nat} (hL : LyN m (fun _ _ => True) m o) (h : ivl m R v o f l) (hi : i ≤ m) : begP R v (ctO o i) ↔ f < i := by
  constructor
  · rintro ⟨j, h1, h2⟩
    obtain ⟨p, hp, rfl⟩ := ctO_bit.mp h2
    have := (h.2.2 p (by omega)).mp h1
    omega
  · intro q
    exact ⟨o f, (h.2.2 f (by omega)).mpr ⟨Nat.le_refl _, h.1⟩, ctO_bit.mpr ⟨f, q, rfl⟩⟩
theorem ivl_who {f l i : Nat} (hL : LyN m (fun _ _ => True) m o) (hR : R v < 2 ^ m) (h : ivl m R v o f l) (hi : i ≤ m) : whoP R v (ctO o i) ↔ l < i := by
  constructor
  · intro q
    obtain ⟨p, hp, e⟩ := ctO_bit.mp (q (o l) ((h.2.2 l h.2.1).mpr ⟨h.1, Nat.le_refl _⟩))
    have := hL.inj (by omega) h.2.1 e
    omega
  · intro q j hj
    obtain ⟨p, hp, rfl⟩ := hL.onto (bit_lt hR hj)
    have := (h.2.2 p hp).mp hj
    exact ctO_bit.mpr ⟨p, by omega, rfl⟩
theorem LyN.any {may may' : Nat → Nat → Prop} {n : Nat} (h : LyN m may n o) (hc : ∀ i, i < n → may' (ctO o i) (o i)) : LyN m may' n o := fun i hi => ⟨(h i hi).1, (h i hi).2.1, hc i hi⟩
/-- rows without a MOMENT in common: one is ahead -/
theorem ivl_two {w f l f' l' : Nat} (h : ivl m R v o f l) (h' : ivl m R w o f' l') (hd : ∀ j, Bs (R v) j → ¬ Bs (R w) j) : l < f' ∨ l' < f := by
  refine Classical.byContradiction fun q => ?_
  by_cases e : f ≤ f'
  · exact hd (o f') ((h.2.2 f' (by have := h'.1; have := h'.2.1; omega)).mpr ⟨e, by omega⟩) ((h'.2.2 f' (by have := h'.1; have := h'.2.1; omega)).mpr ⟨Nat.le_refl _, h'.1⟩)
  · exact hd (o f) ((h.2.2 f (by have := h.1; have := h.2.1; omega)).mpr ⟨Nat.le_refl _, h.1⟩) ((h'.2.2 f (by have := h.1; have := h.2.1; omega)).mpr ⟨by omega, by omega⟩)
end Ivl
/-! what was told -/
def ahF (s : St) (p : Nat × Nat) : Option (Nat × Nat) := match rul s (sFo s) p.1 p.2 (sN s) with
  | none => none
  | some k => if sWd s k = 3 then some (sFi s k, sSe s k) else none
theorem ahL_eq (s : St) : ahL s = (prL (sG s)).filterMap (ahF s) := rfl
theorem ahL_len {s : St} (hI : SI s) : (ahL s).length ≤ 36 := Nat.le_trans (List.length_filterMap_le _ _) (prL_len ⟨sG s, by have := hI.1; omega⟩)
theorem ahL_in {s : St} (hI : SI s) {p : Nat × Nat} (h : p ∈ ahL s) : p.1 < sG s ∧ p.2 < sG s := by
  rw [ahL_eq, List.mem_filterMap] at h
  obtain ⟨q, hq, e⟩ := h
  unfold ahF at e
  split at e
  · cases e
  · rename_i k hk
    split at e
    · have := hI.2.2.1 k (rul_lt hk).1
      cases e
      exact ⟨this.2.1, this.2.2.1⟩
    · cases e
theorem ord_bits {mo : Nat → Nat} {m k j : Nat} : ∀ (L : List (Nat × Nat)) (P : Nat → Nat), Bs (L.foldl (fun P p => ordP mo P m p.1 p.2) P k) j ↔ Bs (P k) j ∨ ∃ p, p ∈ L ∧ k < m ∧ Bs (mo k) p.2 ∧ Bs (rwG mo m p.1) j
  | [], P => by simp
  | p :: L, P => by
    rw [List.foldl_cons, ord_bits L]
    have e : Bs (ordP mo P m p.1 p.2 k) j ↔ Bs (P k) j ∨ (k < m ∧ Bs (mo k) p.2 ∧ Bs (rwG mo m p.1) j) := by
      unfold ordP
      by_cases q : k < m ∧ (mo k).testBit p.2 = true
      · rw [if_pos q]
        have : Bs (P k ||| rwG mo m p.1) j ↔ Bs (P k) j ∨ Bs (rwG mo m p.1) j := by unfold Bs; rw [Nat.testBit_or, Bool.or_eq_true]
        rw [this]
        exact ⟨fun z => z.imp id (fun z => ⟨q.1, q.2, z⟩), fun z => z.imp id (fun z => z.2.2)⟩
      · rw [if_neg q]
        exact ⟨Or.inl, fun z => z.elim id (fun z => absurd ⟨z.1, z.2.1⟩ q)⟩
    rw [e]
    constructor
    · rintro ((z | z) | ⟨p', z1, z2⟩)
      · exact Or.inl z
      · exact Or.inr ⟨p, List.mem_cons_self, z⟩
      · exact Or.inr ⟨p', List.mem_cons_of_mem _ z1, z2⟩
    · rintro (z | ⟨p', z1, z2⟩)
      · exact Or.inl (Or.inl z)
      · rcases List.mem_cons.mp z1 with rfl | z1
        · exact Or.inl (Or.inr z2)
        · exact Or.inr ⟨p', z1, z2⟩
/-- which order may go on how, with what was told -/
noncomputable def mayO (s : St) : Nat → Nat → Prop := fun c k => mayQ s c k ∧ ∀ p, p ∈ ahL s → Bs (rwM (Ms s) (sG s) p.2) k → whoP (rwM (Ms s) (sG s)) p.1 c
section OrdS
variable {s : St}
theorem may_eqO (hI : SI s) : mayG (so s) (sm s) (ahP s) = mayO s := by
  funext c k
  apply propext
  have e := congrFun (congrFun (may_eq hI) c) k
  have e1 : mayS (rwG (so s) (sm s)) 9 c k ↔ mayQ s c k := by
    rw [← e]
    exact ⟨fun q => ⟨q, fun j hj => by simp [P0, Bs] at hj⟩, fun q => q.1⟩
  unfold mayG mayO
  rw [e1]
  refine and_congr_right (fun _ => ?_)
  constructor
  · intro h p hp hk j hj
    obtain ⟨k1, k2⟩ := rwM_bit.mp hk
    exact h j ((ord_bits (ahL s) P0).mpr (Or.inr ⟨p, hp, k1, k2, hj⟩))
  · intro h j hj
    rcases (ord_bits (ahL s) P0).mp hj with z | ⟨p, z1, z2, z3, z4⟩
    · simp [P0, Bs] at z
    · exact h p z1 (rwM_bit.mpr ⟨z2, z3⟩) j z4
theorem rwF_eq (h : sm s ≤ 9) : rwF (Ms s) (sG s) = rwM (Ms s) (sG s) := by
  funext v; unfold rwF; rw [if_pos (by show sm s < 10; omega)]
theorem mayN_eqO (h : sm s ≤ 9) : mayN (rwF (Ms s) (sG s)) (sG s) (ahL s) none = mayO s := by
  funext c k
  apply propext
  rw [rwF_eq h]
  exact ⟨fun q => ⟨q.1, q.2.1⟩, fun q => ⟨q.1, q.2, trivial⟩⟩
/-- orders that obey, one at least -/
def layO (s : St) : Prop := layQ s ∧ 0 < wy (sm s) (mayO s) 0
theorem mayO_le : ∀ c k, c < 2 ^ sm s → k < sm s → mayO s c k → mayQ s c k := fun _ _ _ _ h => h.1
theorem ldO (hI : SI s) : ldP (sm s) (so s) (ahP s) ↔ layO s := by
  unfold ldP layO
  rw [may_eqO hI]
  constructor
  · rintro ⟨h1, h2⟩
    refine ⟨(lay_ld hI).mp ⟨h1, ?_⟩, h2⟩
    rw [may_eq hI]
    exact Nat.lt_of_lt_of_le h2 (wy_mono mayO_le 0 (Nat.two_pow_pos _))
  · rintro ⟨h1, h2⟩
    exact ⟨lay_9 hI h1, h2⟩
theorem rw_ne (hI : SI s) {v : Nat} (hv : v < sG s) : ∃ j, Bs (rwM (Ms s) (sG s) v) j := by
  obtain ⟨k, hk, hb⟩ := mo_has (Ms_sym hI) hv
  exact ⟨k, rwM_bit.mpr ⟨hk, hb⟩⟩
theorem rw_dis (hI : SI s) {v w : Nat} (hv : v < sG s) (hw : w < sG s) (hne : v ≠ w) (h : ¬ Eo (Ms s) v w) : ∀ j, Bs (rwM (Ms s) (sG s) v) j → ¬ Bs (rwM (Ms s) (sG s) w) j := fun j h1 h2 => by
  obtain ⟨a1, a2⟩ := rwM_bit.mp h1
  obtain ⟨b1, b2⟩ := rwM_bit.mp h2
  exact h ((mo_two (Ms_sym hI) hv hw hne).mpr ⟨j, a1, a2, b2⟩)
theorem lay_ivl (hI : SI s) {o : Nat → Nat} (ho : LyN (sm s) (mayQ s) (sm s) o) {v : Nat} (hv : v < sG s) : ∃ f l, ivl (sm s) (rwM (Ms s) (sG s)) v o f l :=
  ivl_ex ((lay_iff (fun v _ => rwM_lt v)).mp ho) hv (fun v _ => rwM_lt v) (rw_ne hI hv)
/-- the first one is ahead of the second one in an order -/
def ctA (s : St) (a b : Nat) (o : Nat → Nat) : Prop := ∃ i, i ≤ sm s ∧ (∀ j, Bs (rwM (Ms s) (sG s) a) j → Bs (ctO o i) j) ∧ ∀ j, Bs (rwM (Ms s) (sG s) b) j → ¬ Bs (ctO o i) j
theorem ctA_iff {a b f l f' l' : Nat} {o : Nat → Nat} (hT : LyN (sm s) (fun _ _ => True) (sm s) o) (ha : ivl (sm s) (rwM (Ms s) (sG s)) a o f l) (hb : ivl (sm s) (rwM (Ms s) (sG s)) b o f' l') : ctA s a b o ↔ l < f' := by
  have nb : ∀ i, (∀ j, Bs (rwM (Ms s) (sG s) b) j → ¬ Bs (ctO o i) j) ↔ ¬ begP (rwM (Ms s) (sG s)) b (ctO o i) := fun i => ⟨fun h ⟨j, h1, h2⟩ => h j h1 h2, fun h j h1 h2 => h ⟨j, h1, h2⟩⟩
  constructor
  · rintro ⟨i, hi, h1, h2⟩
    have q1 := (ivl_who hT (rwM_lt a) ha hi).mp h1
    have q2 := (nb i).mp h2
    rw [ivl_beg hT hb hi] at q2
    omega
  · intro q
    have := hb.1
    have := hb.2.1
    refine ⟨f', by omega, (ivl_who hT (rwM_lt a) ha (by omega)).mpr q, (nb f').mpr (fun z => ?_)⟩
    rw [ivl_beg hT hb (by omega)] at z
    omega
/-- apart, one is ahead of the other, not both -/
theorem ctA_or (hI : SI s) {a b : Nat} (ha : a < sG s) (hb : b < sG s) (hab : a ≠ b) (hn : ¬ Eo (Ms s) a b) {o : Nat → Nat} (ho : LyN (sm s) (mayQ s) (sm s) o) : (ctA s a b o ∨ ctA s b a o) ∧ ¬ (ctA s a b o ∧ ctA s b a o) := by
  obtain ⟨f, l, h1⟩ := lay_ivl hI ho ha
  obtain ⟨f', l', h2⟩ := lay_ivl hI ho hb
  have hT : LyN (sm s) (fun _ _ => True) (sm s) o := ho.any (fun _ _ => trivial)
  rw [ctA_iff hT h1 h2, ctA_iff hT h2 h1]
  have h3 := ivl_two h1 h2 (rw_dis hI ha hb hab hn)
  have := h1.1
  have := h2.1
  exact ⟨h3, by omega⟩
/-- one more pair told -/
theorem more_iff (hI : SI s) {a b : Nat} (ha : a < sG s) (hb : b < sG s) {o : Nat → Nat} : LyN (sm s) (fun c k => mayO s c k ∧ (Bs (rwM (Ms s) (sG s) b) k → whoP (rwM (Ms s) (sG s)) a c)) (sm s) o ↔ LyN (sm s) (mayO s) (sm s) o ∧ ctA s a b o := by
  constructor
  · intro h
    have h0 : LyN (sm s) (mayO s) (sm s) o := h.any (fun i hi => (h i hi).2.2.1)
    have hQ : LyN (sm s) (mayQ s) (sm s) o := h0.any (fun i hi => (h0 i hi).2.2.1)
    have hT : LyN (sm s) (fun _ _ => True) (sm s) o := h0.any (fun _ _ => trivial)
    obtain ⟨f, l, h1⟩ := lay_ivl hI hQ ha
    obtain ⟨f', l', h2⟩ := lay_ivl hI hQ hb
    have := h2.1
    have hf := h2.2.1
    have w := (h f' (by omega)).2.2.2 ((h2.2.2 f' (by omega)).mpr ⟨Nat.le_refl _, h2.1⟩)
    rw [ivl_who hT (rwM_lt a) h1 (by omega)] at w
    exact ⟨h0, (ctA_iff hT h1 h2).mpr w⟩
  · rintro ⟨h0, i, hi, q1, q2⟩
    refine h0.any (fun j hj => ⟨(h0 j hj).2.2, fun hb x hx => ?_⟩)
    have hij : i ≤ j := Nat.le_of_not_lt (fun z => q2 _ hb (ctO_bit.mpr ⟨j, z, rfl⟩))
    obtain ⟨p, hp, e⟩ := ctO_bit.mp (q1 x hx)
    exact ctO_bit.mpr ⟨p, by omega, e⟩
theorem mayN_more (h : sm s ≤ 9) {a b : Nat} : mayN (rwF (Ms s) (sG s)) (sG s) (ahL s ++ [(a, b)]) none = fun c k => mayO s c k ∧ (Bs (rwM (Ms s) (sG s) b) k → whoP (rwM (Ms s) (sG s)) a c) := by
  funext c k
  apply propext
  rw [rwF_eq h]
  constructor
  · rintro ⟨q1, q2, -⟩
    exact ⟨⟨q1, fun p hp => q2 p (List.mem_append_left _ hp)⟩, q2 (a, b) (List.mem_append_right _ (List.mem_singleton.mpr rfl))⟩
  · rintro ⟨⟨q1, q2⟩, q3⟩
    refine ⟨q1, fun p hp => ?_, trivial⟩
    rcases List.mem_append.mp hp with hp | hp
    · exact q2 p hp
    · rw [List.mem_singleton.mp hp]; exact q3
/-- the second one is between the two others in an order -/
def btw (s : St) (a b d : Nat) (o : Nat → Nat) : Prop := ¬ (ctA s b a o ∧ ctA s b d o) ∧ ¬ (ctA s a b o ∧ ctA s d b o)
theorem tri_iff (hI : SI s) {a b d : Nat} (ha : a < sG s) (hb : b < sG s) (hd : d < sG s) (hab : a ≠ b) (had : a ≠ d) (hbd : b ≠ d) (nab : ¬ Eo (Ms s) a b) (nad : ¬ Eo (Ms s) a d) (nbd : ¬ Eo (Ms s) b d) {o : Nat → Nat} (ho : LyN (sm s) (mayQ s) (sm s) o) : LyN (sm s) (fun c k => mayQ s c k ∧ triP (rwM (Ms s) (sG s)) (some (a, b, d)) c k) (sm s) o ↔ btw s a b d o := by
  obtain ⟨fa, la, A⟩ := lay_ivl hI ho ha
  obtain ⟨fb, lb, B⟩ := lay_ivl hI ho hb
  obtain ⟨fd, ld, D⟩ := lay_ivl hI ho hd
  have hT : LyN (sm s) (fun _ _ => True) (sm s) o := ho.any (fun _ _ => trivial)
  have dab := ivl_two A B (rw_dis hI ha hb hab nab)
  have dad := ivl_two A D (rw_dis hI ha hd had nad)
  have dbd := ivl_two B D (rw_dis hI hb hd hbd nbd)
  unfold btw
  rw [ctA_iff hT B A, ctA_iff hT B D, ctA_iff hT A B, ctA_iff hT D B]
  have a1 := A.1
  have a2 := A.2.1
  have b1 := B.1
  have b2 := B.2.1
  have d1 := D.1
  have d2 := D.2.1
  have tri : ∀ i, i < sm s → (triP (rwM (Ms s) (sG s)) (some (a, b, d)) (ctO o i) (o i) ↔ ¬ (¬ fb < i ∧ (fb ≤ i ∧ i ≤ lb) ∧ (fa < i ↔ fd < i)) ∧ ¬ (¬ fa < i ∧ (fa ≤ i ∧ i ≤ la) ∧ fd < i ∧ ¬ fb < i) ∧ ¬ (¬ fd < i ∧ (fd ≤ i ∧ i ≤ ld) ∧ fa < i ∧ ¬ fb < i)) := fun i hi => by
    unfold triP
    simp only
    rw [ivl_beg hT A (by omega), ivl_beg hT B (by omega), ivl_beg hT D (by omega), A.2.2 i hi, B.2.2 i hi, D.2.2 i hi]
  constructor
  · intro h
    have t1 := (tri fb (by omega)).mp (h fb (by omega)).2.2.2
    obtain ⟨t1, -, -⟩ := t1
    have n1 : ¬ (fa < fb ↔ fd < fb) := fun q => t1 ⟨by omega, by omega, q⟩
    constructor
    · rintro ⟨q1, q2⟩; exact n1 ⟨fun z => by omega, fun z => by omega⟩
    · rintro ⟨q1, q2⟩; exact n1 ⟨fun z => by omega, fun z => by omega⟩
  · rintro ⟨q1, q2⟩
    refine ho.any (fun i hi => ⟨(ho i hi).2.2, (tri i hi).mpr ?_⟩)
    refine ⟨?_, ?_, ?_⟩
    · rintro ⟨z1, z2, z3⟩
      have ei : i = fb := by omega
      subst ei
      by_cases c : fa < i
      · have := z3.mp c
        exact q2 ⟨by omega, by omega⟩
      · have : ¬ fd < i := fun y => c (z3.mpr y)
        exact q1 ⟨by omega, by omega⟩
    · rintro ⟨z1, z2, z3, z4⟩
      exact q2 ⟨by omega, by omega⟩
    · rintro ⟨z1, z2, z3, z4⟩
      exact q2 ⟨by omega, by omega⟩
theorem mayN_tri (h : sm s ≤ 9) {a b d : Nat} : mayN (rwF (Ms s) (sG s)) (sG s) [] (some (a, b, d)) = fun c k => mayQ s c k ∧ triP (rwM (Ms s) (sG s)) (some (a, b, d)) c k := by
  funext c k
  apply propext
  rw [rwF_eq h]
  exact ⟨fun q => ⟨q.1, q.2.2⟩, fun q => ⟨q.1, fun p hp => by simp at hp, q.2⟩⟩
end OrdS
/-! the answers -/
noncomputable def aObey (s : St) : Rs := rL (lN (cif (layQ s) (wy (sm s) (mayO s) 0) 0))
noncomputable def spanQ (s : St) (g : Nat) (l : Int32) : Int := if l = 0 then Classical.epsilon (spL (sm s) (mayO s) (so s) g) else Classical.epsilon (spH (sm s) (mayO s) (so s) g)
noncomputable def aSpan (s : St) (p l : Int32) : Rs := cif (isG s p) (rI (cif (layO s) (zI (spanQ s p.toNatClampNeg l)) (-1))) (.inr XI)
noncomputable def aMust (s : St) (p q : Int32) : Rs := cif (isG s p ∧ isG s q) (rI (cif (layO s ∧ p ≠ q ∧ ¬ Eo (Ms s) p.toNatClampNeg q.toNatClampNeg) (cif (∀ o, LyN (sm s) (mayO s) (sm s) o → ctA s p.toNatClampNeg q.toNatClampNeg o) (nI 1) (cif (∀ o, LyN (sm s) (mayO s) (sm s) o → ¬ ctA s p.toNatClampNeg q.toNatClampNeg o) (nI 0) (nI 2))) (-1))) (.inr XI)
noncomputable def btwQ (s : St) (a b d : Nat) : Prop := (a ≠ b ∧ b ≠ d ∧ a ≠ d ∧ ¬ Eo (Ms s) a b ∧ ¬ Eo (Ms s) b d ∧ ¬ Eo (Ms s) a d) ∧ ∀ o, LyN (sm s) (mayQ s) (sm s) o → btw s a b d o
noncomputable def aBetween (s : St) (p q t : Int32) : Rs := cif (isG s p ∧ isG s q ∧ isG s t) (cif (layQ s) (rI (iB (btwQ s p.toNatClampNeg q.toNatClampNeg t.toNatClampNeg))) (.inr XS)) (.inr XI)
theorem spL_uq {m : Nat} {may : Nat → Nat → Prop} {mo : Nat → Nat} {g : Nat} {y z : Int} (hy : spL m may mo g y) (hz : spL m may mo g z) : y = z := by
  rcases hy with ⟨rfl, h1⟩ | ⟨p, rfl, h1, h2⟩
  · rcases hz with ⟨rfl, -⟩ | ⟨q, rfl, k1, k2⟩
    · rfl
    · exact absurd k1 (h1 q)
  · rcases hz with ⟨rfl, k1⟩ | ⟨q, rfl, k1, k2⟩
    · exact absurd h1 (k1 p)
    · have := h2 q k1; have := k2 p h1; omega
theorem spH_uq {m : Nat} {may : Nat → Nat → Prop} {mo : Nat → Nat} {g : Nat} {y z : Int} (hy : spH m may mo g y) (hz : spH m may mo g z) : y = z := by
  rcases hy with ⟨rfl, h1⟩ | ⟨p, rfl, h1, h2⟩
  · rcases hz with ⟨rfl, -⟩ | ⟨q, rfl, k1, k2⟩
    · rfl
    · exact absurd k1 (h1 q)
  · rcases hz with ⟨rfl, k1⟩ | ⟨q, rfl, k1, k2⟩
    · exact absurd h1 (k1 p)
    · have := h2 q k1; have := k2 p h1; omega
