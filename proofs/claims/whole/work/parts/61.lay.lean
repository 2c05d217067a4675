/-! MOMENTS in a row, whose they are, and orders of them -/
noncomputable def flL (P : Nat → Prop) : Nat → List Nat
  | 0 => []
  | n + 1 => @ite (List Nat) (P n) (Classical.propDecidable _) (flL P n ++ [n]) (flL P n)
theorem flL_yes {P : Nat → Prop} {n : Nat} (h : P n) : flL P (n + 1) = flL P n ++ [n] := if_pos h
theorem flL_no {P : Nat → Prop} {n : Nat} (h : ¬ P n) : flL P (n + 1) = flL P n := if_neg h
theorem flL_len {P : Nat → Prop} : ∀ n, (flL P n).length = gSz P n
  | 0 => rfl
  | n + 1 => by
    by_cases h : P n
    · rw [flL_yes h, List.length_append, flL_len n]
      simp only [gSz, h, if_true, List.length_cons, List.length_nil]
    · rw [flL_no h, flL_len n]
      simp only [gSz, h, if_false, Nat.add_zero]
theorem flL_mem {P : Nat → Prop} {K : Nat} : ∀ {n : Nat}, K ∈ flL P n ↔ K < n ∧ P K
  | 0 => by simp [flL]
  | n + 1 => by
    by_cases h : P n
    · rw [flL_yes h, List.mem_append, flL_mem (n := n), List.mem_singleton]
      constructor
      · rintro (⟨q1, q2⟩ | rfl)
        · exact ⟨by omega, q2⟩
        · exact ⟨by omega, h⟩
      · rintro ⟨q1, q2⟩
        by_cases e : K = n
        · exact Or.inr e
        · exact Or.inl ⟨by omega, q2⟩
    · rw [flL_no h, flL_mem (n := n)]
      constructor
      · rintro ⟨q1, q2⟩; exact ⟨by omega, q2⟩
      · rintro ⟨q1, q2⟩
        by_cases e : K = n
        · exact absurd (e ▸ q2) h
        · exact ⟨by omega, q2⟩
theorem flL_lt {P : Nat → Prop} : ∀ {n i j : Nat}, i < j → j < (flL P n).length → (flL P n).getD i 0 < (flL P n).getD j 0
  | 0, i, j, _, hj => by simp [flL] at hj
  | n + 1, i, j, hij, hj => by
    by_cases h : P n
    · rw [flL_yes h] at hj ⊢
      rw [List.length_append, List.length_cons, List.length_nil] at hj
      by_cases e : j = (flL P n).length
      · have h1 : (flL P n).getD i 0 ∈ flL P n := by
          rw [List.getD_eq_getElem?_getD, List.getElem?_eq_getElem (by omega), Option.getD_some]
          exact List.getElem_mem _
        have h2 := (flL_mem.mp h1).1
        rw [List.getD_eq_getElem?_getD, List.getD_eq_getElem?_getD, List.getElem?_append_left (by omega), List.getElem?_append_right (by omega), e, Nat.sub_self]
        rw [List.getD_eq_getElem?_getD] at h2
        exact h2
      · have ih := flL_lt (P := P) (n := n) hij (by omega)
        rw [List.getD_eq_getElem?_getD, List.getD_eq_getElem?_getD] at ih ⊢
        rw [List.getElem?_append_left (by omega), List.getElem?_append_left (by omega)]
        exact ih
    · rw [flL_no h] at hj ⊢
      exact flL_lt hij hj
theorem getD_mem {l : List Nat} {i : Nat} (h : i < l.length) : l.getD i 0 ∈ l := by
  rw [List.getD_eq_getElem?_getD, List.getElem?_eq_getElem h, Option.getD_some]
  exact List.getElem_mem _
theorem mem_getD {l : List Nat} {x : Nat} (h : x ∈ l) : ∃ i, i < l.length ∧ l.getD i 0 = x := by
  obtain ⟨i, hi, e⟩ := List.mem_iff_getElem.mp h
  exact ⟨i, hi, by rw [List.getD_eq_getElem?_getD, List.getElem?_eq_getElem hi, Option.getD_some, e]⟩
/-- is a MOMENT of G guests -/
def mxP2 (M : Nat → Nat) (G K : Nat) : Prop := isMo M (2 ^ G - 1) K ∧ K ≠ 0
noncomputable def mos (M : Nat → Nat) (G : Nat) : List Nat := flL (mxP2 M G) (2 ^ G)
noncomputable def mo (M : Nat → Nat) (G k : Nat) : Nat := (mos M G).getD k 0
noncomputable def mN (M : Nat → Nat) (G : Nat) : Nat := (mos M G).length
/-- in which MOMENTS a guest is -/
noncomputable def rwM (M : Nat → Nat) (G v : Nat) : Nat := bmk (fun k => (mo M G k).testBit v) (mN M G)
theorem bs_full {G v : Nat} : Bs (2 ^ G - 1) v ↔ v < G := by
  unfold Bs; rw [full_bit, decide_eq_true_eq]
section Mos
variable {M : Nat → Nat} {G : Nat}
theorem mo_is {k : Nat} (h : k < mN M G) : isMo M (2 ^ G - 1) (mo M G k) ∧ mo M G k ≠ 0 ∧ mo M G k < 2 ^ G := by
  obtain ⟨h1, h2⟩ := flL_mem.mp (getD_mem (l := mos M G) h)
  exact ⟨h2.1, h2.2, h1⟩
theorem mo_lt {i j : Nat} (h : i < j) (hj : j < mN M G) : mo M G i < mo M G j := flL_lt h hj
theorem mo_inj {i j : Nat} (hi : i < mN M G) (hj : j < mN M G) (e : mo M G i = mo M G j) : i = j := by
  rcases Nat.lt_trichotomy i j with q | q | q
  · have := mo_lt q hj; omega
  · exact q
  · have := mo_lt q hi; omega
theorem isMo_lt {K : Nat} (h : isMo M (2 ^ G - 1) K) : K < 2 ^ G := lt_of_bits (fun i hi => bs_full.mp (h.1 i hi))
theorem mo_all {K : Nat} (h : isMo M (2 ^ G - 1) K) (h0 : K ≠ 0) : ∃ k, k < mN M G ∧ mo M G k = K := mem_getD (l := mos M G) (flL_mem.mpr ⟨isMo_lt h, h, h0⟩)
theorem rwM_bit {v k : Nat} : Bs (rwM M G v) k ↔ k < mN M G ∧ Bs (mo M G k) v := by
  unfold Bs rwM
  rw [bmk_bit, Bool.and_eq_true, decide_eq_true_eq]
theorem rwM_lt (v : Nat) : rwM M G v < 2 ^ mN M G := bmk_lt _ _
/-- some who have all met are in a MOMENT together -/
theorem mo_ext (hs : ∀ a b, Eo M a b → Eo M b a) {K : Nat} (h1 : ∀ v, Bs K v → v < G) (h2 : gCl (Eo M) (Bs K)) (h0 : K ≠ 0) : ∃ k, k < mN M G ∧ ∀ v, Bs K v → Bs (mo M G k) v := by
  obtain ⟨K', ⟨q1, q2, q3⟩, hmax⟩ := g_max (fun K' => (∀ v, Bs K v → Bs K' v) ∧ (∀ v, Bs K' v → v < G) ∧ gCl (Eo M) (Bs K')) (fun K' => gSz (Bs K') G) G (fun _ => gSz_bd) K ⟨fun _ h => h, h1, h2⟩
  have hm : isMo M (2 ^ G - 1) K' := by
    refine ⟨fun v hv => bs_full.mpr (q2 v hv), q3, fun u hu hn => Classical.byContradiction fun hq => ?_⟩
    have all : ∀ v, Bs K' v → Eo M v u := fun v hv => Classical.byContradiction fun z => hq ⟨v, hv, z⟩
    have hu := bs_full.mp hu
    have bK : ∀ v, Bs (K' ||| 2 ^ u) v ↔ Bs K' v ∨ u = v := fun v => or_bitT
    have h9 := hmax (K' ||| 2 ^ u) ⟨fun v hv => (bK v).mpr (Or.inl (q1 v hv)), fun v hv => by
      rcases (bK v).mp hv with z | rfl
      · exact q2 v z
      · exact hu, fun a b ha hb hab => by
      rcases (bK a).mp ha with ha | rfl
      · rcases (bK b).mp hb with hb | rfl
        · exact q3 a b ha hb hab
        · exact all a ha
      · rcases (bK b).mp hb with hb | rfl
        · exact hs _ _ (all b hb)
        · exact absurd rfl hab⟩
    have h8 := gSz_lt (P := Bs K') (P' := Bs (K' ||| 2 ^ u)) (n := G) (fun v hv => (bK v).mpr (Or.inl hv)) hu ((bK u).mpr (Or.inr rfl)) hn
    omega
  have hne : K' ≠ 0 := fun e => by
    obtain ⟨i, hi⟩ := ne0_bit h0
    have := q1 i hi
    rw [e] at this; simp [Bs] at this
  obtain ⟨k, hk, e⟩ := mo_all hm hne
  exact ⟨k, hk, fun v hv => by rw [e]; exact q1 v hv⟩
theorem mo_has (hs : ∀ a b, Eo M a b → Eo M b a) {v : Nat} (hv : v < G) : ∃ k, k < mN M G ∧ Bs (mo M G k) v := by
  have b1 : ∀ u, Bs (2 ^ v) u ↔ v = u := fun u => by unfold Bs; rw [Nat.testBit_two_pow, decide_eq_true_eq]
  obtain ⟨k, hk, h⟩ := mo_ext (G := G) hs (K := 2 ^ v) (fun u hu => (b1 u).mp hu ▸ hv) (fun a b ha hb hab => absurd (((b1 a).mp ha).symm.trans ((b1 b).mp hb)) hab) (by have := Nat.two_pow_pos v; omega)
  exact ⟨k, hk, h v ((b1 v).mpr rfl)⟩
theorem mo_two (hs : ∀ a b, Eo M a b → Eo M b a) {v w : Nat} (hv : v < G) (hw : w < G) (hvw : v ≠ w) : Eo M v w ↔ ∃ k, k < mN M G ∧ Bs (mo M G k) v ∧ Bs (mo M G k) w := by
  constructor
  · intro e
    have b1 : ∀ u, Bs (2 ^ v ||| 2 ^ w) u ↔ v = u ∨ w = u := fun u => by
      unfold Bs
      rw [or_bitT, Nat.testBit_two_pow, decide_eq_true_eq]
    obtain ⟨k, hk, h⟩ := mo_ext (G := G) hs (K := 2 ^ v ||| 2 ^ w) (fun u hu => by rcases (b1 u).mp hu with rfl | rfl <;> assumption) (fun a b ha hb hab => by
      rcases (b1 a).mp ha with rfl | rfl <;> rcases (b1 b).mp hb with rfl | rfl
      · exact absurd rfl hab
      · exact e
      · exact hs _ _ e
      · exact absurd rfl hab) (fun e => by
        have := (b1 v).mpr (Or.inl rfl)
        rw [e] at this; simp [Bs] at this)
    exact ⟨k, hk, h v ((b1 v).mpr (Or.inl rfl)), h w ((b1 w).mpr (Or.inr rfl))⟩
  · rintro ⟨k, hk, h1, h2⟩
    exact (mo_is hk).1.2.1 v w h1 h2 hvw
theorem mo_bit {k v : Nat} (hk : k < mN M G) (h : Bs (mo M G k) v) : v < G := bs_full.mp ((mo_is hk).1.1 v h)
/-- at most 27; without a ring at most as many as guests -/
theorem mN_27 (hs : ∀ a b, Eo M a b → Eo M b a) (hi : ∀ a, ¬ Eo M a a) (hG : G ≤ 9) : mN M G ≤ 27 := by
  have e : mN M G = gSz (mxP2 M G) (2 ^ G) := flL_len _
  have hp : 2 ^ G ≤ 512 := Nat.le_trans (Nat.pow_le_pow_right (n := 2) (by omega) hG) (by decide : 2 ^ 9 ≤ _)
  have h1 : gSz (mxP2 M G) 512 = gSz (mxP2 M G) (2 ^ G) := by
    have := gSz_out (P := mxP2 M G) (n := 2 ^ G) (fun K hK => isMo_lt hK.1) (512 - 2 ^ G)
    rwa [show 2 ^ G + (512 - 2 ^ G) = 512 by omega] at this
  have h2 : gSz (mxP2 M G) 512 ≤ gSz (isMo M (2 ^ G - 1)) 512 := gSz_le (fun K hK => hK.1)
  have h3 := moon hs hi _ (2 ^ G - 1) (by have := Nat.two_pow_pos G; omega) (Nat.le_refl _)
  have h4 := gSz_bd (P := Bs (2 ^ G - 1)) (n := 9)
  have h5 : gm (gSz (Bs (2 ^ G - 1)) 9) ≤ gm 9 := gm_mono ⟨gSz (Bs (2 ^ G - 1)) 9, by omega⟩ ⟨9, by omega⟩ h4
  have h6 : gm 9 = 27 := rfl
  omega
theorem mN_ch (hs : ∀ a b, Eo M a b → Eo M b a) (hG : G ≤ 9) (hC : gCh (Eo M) (Bs (2 ^ G - 1))) : mN M G ≤ 9 := by
  have e : mN M G = gSz (mxP2 M G) (2 ^ G) := flL_len _
  have hp : 2 ^ G ≤ 512 := Nat.le_trans (Nat.pow_le_pow_right (n := 2) (by omega) hG) (by decide : 2 ^ 9 ≤ _)
  have h1 : gSz (mxP2 M G) 512 = gSz (mxP2 M G) (2 ^ G) := by
    have := gSz_out (P := mxP2 M G) (n := 2 ^ G) (fun K hK => isMo_lt hK.1) (512 - 2 ^ G)
    rwa [show 2 ^ G + (512 - 2 ^ G) = 512 by omega] at this
  have h3 := mo_ch hs _ (2 ^ G - 1) (by have := Nat.two_pow_pos G; omega) (Nat.le_refl _) hC
  have h4 := gSz_bd (P := Bs (2 ^ G - 1)) (n := 9)
  have h5 : gSz (mxP2 M G) 512 = gSz (fun K => isMo M (2 ^ G - 1) K ∧ K ≠ 0) 512 := rfl
  omega
end Mos
/-! rows that must stand side by side -/
def mayS (R : Nat → Nat) (n : Nat) (c k : Nat) : Prop := ∀ v, v < n → (∃ j, Bs (R v) j ∧ Bs c j) → (∃ j, Bs (R v) j ∧ ¬ Bs c j) → Bs (R v) k
/-- all once, the rows side by side -/
def LayO (m : Nat) (R : Nat → Nat) (n : Nat) (o : Nat → Nat) : Prop := (∀ i, i < m → o i < m) ∧ (∀ i j, i < m → j < m → o i = o j → i = j) ∧ ∀ v, v < n → ∀ i j l, i < j → j < l → l < m → Bs (R v) (o i) → Bs (R v) (o l) → Bs (R v) (o j)
theorem LyT_of {m : Nat} {o : Nat → Nat} (h1 : ∀ i, i < m → o i < m) (h2 : ∀ i j, i < m → j < m → o i = o j → i = j) : LyN m (fun _ _ => True) m o := fun i hi => ⟨h1 i hi, by
  cases hb : (ctO o i).testBit (o i)
  · rfl
  · obtain ⟨j, hj, e⟩ := ctO_bit.mp hb
    have := h2 j i (by omega) hi e; omega, trivial⟩
theorem bsF {c k : Nat} : ¬ Bs c k ↔ c.testBit k = false := by unfold Bs; cases c.testBit k <;> simp
theorem lay_iff {m : Nat} {R : Nat → Nat} {n : Nat} {o : Nat → Nat} (hR : ∀ v, v < n → R v < 2 ^ m) : LyN m (mayS R n) m o ↔ LayO m R n o := by
  constructor
  · intro h
    refine ⟨fun i hi => (h i hi).1, fun i j hi hj e => h.inj hi hj e, fun v hv i j l hij hjl hl h1 h2 => ?_⟩
    refine (h j (by omega)).2.2 v hv ⟨o i, h1, ctO_bit.mpr ⟨i, hij, rfl⟩⟩ ⟨o l, h2, fun hb => ?_⟩
    obtain ⟨t, ht, e⟩ := ctO_bit.mp hb
    have := h.inj (by omega) hl e; omega
  · rintro ⟨h1, h2, h3⟩
    have hT := LyT_of h1 h2
    intro i hi
    refine ⟨h1 i hi, (hT i hi).2.1, fun v hv ⟨x, hx, hxc⟩ ⟨y, hy, hyc⟩ => ?_⟩
    obtain ⟨a, ha, rfl⟩ := ctO_bit.mp hxc
    obtain ⟨l, hl, rfl⟩ := hT.onto (bit_lt (hR v hv) hy)
    by_cases e : l = i
    · exact e ▸ hy
    · have : ¬ l < i := fun q => hyc (ctO_bit.mpr ⟨l, q, rfl⟩)
      exact h3 v hv a i l ha (by omega) hl hx hy
/-! a line of stays gives an order, and an order gives one -/
section LineLay
variable {M : Nat → Nat} {G : Nat}
theorem sk_ex {V : Nat → Prop} {α : Type} {P : Nat → α → Prop} (a0 : α) (h : ∀ v, V v → ∃ a, P v a) : ∃ f : Nat → α, ∀ v, V v → P v (f v) :=
  ⟨fun v => @dite α (V v) (Classical.propDecidable _) (fun q => (h v q).choose) (fun _ => a0), fun v q => by
    show P v (@dite α (V v) (Classical.propDecidable _) (fun q => (h v q).choose) (fun _ => a0))
    rw [dif_pos q]; exact (h v q).choose_spec⟩
theorem iv_lay (hs : ∀ a b, Eo M a b → Eo M b a) (h : gIv (Eo M) (Bs (2 ^ G - 1)) (fun _ => False)) : 0 < wy (mN M G) (mayS (rwM M G) G) 0 := by
  obtain ⟨lo, hi, B, h1, h2, -⟩ := h
  have hV : ∀ v, v < G → Bs (2 ^ G - 1) v := fun v hv => bs_full.mpr hv
  -- the point of a MOMENT
  obtain ⟨x, hx⟩ := sk_ex (V := fun k => k < mN M G) (P := fun k x => Bs (mo M G k) x ∧ ∀ u, Bs (mo M G k) u → lo u ≤ lo x) 0 (fun k hk => by
    obtain ⟨i, hi0⟩ := ne0_bit (mo_is hk).2.1
    obtain ⟨z, hz1, hz2⟩ := g_max (Bs (mo M G k)) (fun u => @ite Nat (Bs (mo M G k) u) (Classical.propDecidable _) (lo u) 0) B (fun u => by
      by_cases q : Bs (mo M G k) u
      · rw [if_pos q]
        have := h1 u (hV u (mo_bit hk q)); omega
      · rw [if_neg q]; omega) i hi0
    refine ⟨z, hz1, fun u hu => ?_⟩
    have := hz2 u hu
    rwa [if_pos hu, if_pos hz1] at this)
  have pt : ∀ k, k < mN M G → ∀ u, Bs (mo M G k) u → lo u ≤ lo (x k) ∧ lo (x k) ≤ hi u := by
    intro k hk u hu
    obtain ⟨q1, q2⟩ := hx k hk
    refine ⟨q2 u hu, ?_⟩
    by_cases e : u = x k
    · rw [e]; exact (h1 _ (hV _ (mo_bit hk q1))).1
    · exact ((h2 u (x k) (hV _ (mo_bit hk hu)) (hV _ (mo_bit hk q1)) e).mp ((mo_is hk).1.2.1 u (x k) hu q1 e)).2
  have mid : ∀ k, k < mN M G → ∀ v, v < G → lo v ≤ lo (x k) → lo (x k) ≤ hi v → Bs (mo M G k) v := by
    intro k hk v hv q1 q2
    refine Classical.byContradiction fun hn => ?_
    obtain ⟨u, hu, hne⟩ := (mo_is hk).1.2.2 v (hV v hv) hn
    have hu2 := pt k hk u hu
    exact hne ((h2 u v (hV _ (mo_bit hk hu)) (hV v hv) (fun e => hn (e ▸ hu))).mpr ⟨by omega, by omega⟩)
  have inj : ∀ j k, j < mN M G → k < mN M G → lo (x j) = lo (x k) → j = k := by
    intro j k hj hk e
    refine mo_inj hj hk (Nat.eq_of_testBit_eq fun i => ?_)
    have : Bs (mo M G j) i ↔ Bs (mo M G k) i := ⟨fun q => mid k hk i (mo_bit hj q) (by have := pt j hj i q; omega) (by have := pt j hj i q; omega), fun q => mid j hj i (mo_bit hk q) (by have := pt k hk i q; omega) (by have := pt k hk i q; omega)⟩
    unfold Bs at this
    cases q1 : (mo M G j).testBit i <;> cases q2 : (mo M G k).testBit i <;> simp [q1, q2] at this <;> rfl
  have key : ∀ c, c < 2 ^ mN M G → (∀ j, Bs c j → ∀ k, k < mN M G → ¬ Bs c k → lo (x j) < lo (x k)) → 0 < wy (mN M G) (mayS (rwM M G) G) c := by
    refine cut_ind (fun c => (∀ j, Bs c j → ∀ k, k < mN M G → ¬ Bs c k → lo (x j) < lo (x k)) → 0 < wy (mN M G) (mayS (rwM M G) G) c) ?_
    intro c hc ih hd
    by_cases hf : c = 2 ^ mN M G - 1
    · rw [hf, wy_full]; omega
    · obtain ⟨i, hi1, hi2⟩ := cut_miss hc hf
      obtain ⟨k, ⟨hk, hkb⟩, hmin⟩ := g_min (fun k => k < mN M G ∧ ¬ Bs c k) (fun k => lo (x k)) i ⟨hi1, bsF.mpr hi2⟩
      refine wy_pos_of hc hk (bsF.mp hkb) ?_ (ih k hk (bsF.mp hkb) ?_)
      · rintro v hv ⟨j, hj, hjc⟩ ⟨l, hl, hlc⟩
        obtain ⟨hj1, hj2⟩ := rwM_bit.mp hj
        obtain ⟨hl1, hl2⟩ := rwM_bit.mp hl
        have q1 := hd j hjc k hk hkb
        have q2 := hmin l ⟨hl1, hlc⟩
        have q3 := pt j hj1 v hj2
        have q4 := pt l hl1 v hl2
        exact rwM_bit.mpr ⟨hk, mid k hk v hv (by omega) (by omega)⟩
      · intro j hj l hl hlc
        have hlc2 : ¬ Bs c l := fun q => hlc (or_bitT.mpr (Or.inl q))
        have hlk : l ≠ k := fun q => hlc (or_bitT.mpr (Or.inr q.symm))
        rcases or_bitT.mp hj with q | q
        · exact hd j q l hl hlc2
        · subst q
          have q1 := hmin l ⟨hl, hlc2⟩
          have q2 : lo (x k) ≠ lo (x l) := fun e => hlk (inj k l hk hl e).symm
          omega
  exact key 0 (Nat.two_pow_pos _) (fun j hj => by simp [Bs] at hj)
theorem lay_iv (hs : ∀ a b, Eo M a b → Eo M b a) (h : 0 < wy (mN M G) (mayS (rwM M G) G) 0) : gIv (Eo M) (Bs (2 ^ G - 1)) (fun _ => False) := by
  obtain ⟨o, ho⟩ := wy_ex.mp h
  have hO := (lay_iff (fun v _ => rwM_lt v)).mp ho
  obtain ⟨f, hf⟩ := sk_ex (V := fun v => v < G) (P := fun v (p : Nat × Nat) => (p.1 < mN M G ∧ Bs (mo M G (o p.1)) v ∧ ∀ i, i < mN M G → Bs (mo M G (o i)) v → p.1 ≤ i) ∧ p.2 < mN M G ∧ Bs (mo M G (o p.2)) v ∧ ∀ i, i < mN M G → Bs (mo M G (o i)) v → i ≤ p.2) (0, 0) (fun v hv => by
    obtain ⟨k, hk, hkv⟩ := mo_has hs hv
    obtain ⟨i, hi, rfl⟩ := ho.onto hk
    obtain ⟨a, ⟨a1, a2⟩, a3⟩ := g_min (fun i => i < mN M G ∧ Bs (mo M G (o i)) v) (fun i => i) i ⟨hi, hkv⟩
    obtain ⟨b, ⟨b1, b2⟩, b3⟩ := g_max (fun i => i < mN M G ∧ Bs (mo M G (o i)) v) (fun i => @ite Nat (i < mN M G) (Classical.propDecidable _) i 0) (mN M G) (fun i => by by_cases q : i < mN M G <;> simp only [q, if_true, if_false] <;> omega) i ⟨hi, hkv⟩
    refine ⟨(a, b), ⟨a1, a2, fun i h1 h2 => a3 i ⟨h1, h2⟩⟩, b1, b2, fun i h1 h2 => ?_⟩
    have := b3 i ⟨h1, h2⟩
    rwa [if_pos h1, if_pos b1] at this)
  have inn : ∀ v, v < G → ∀ i, (f v).1 ≤ i → i ≤ (f v).2 → Bs (mo M G (o i)) v := by
    intro v hv i h1 h2
    obtain ⟨⟨a1, a2, a3⟩, b1, b2, b3⟩ := hf v hv
    by_cases e1 : i = (f v).1
    · rw [e1]; exact a2
    · by_cases e2 : i = (f v).2
      · rw [e2]; exact b2
      · exact (rwM_bit.mp (hO.2.2 v hv (f v).1 i (f v).2 (by omega) (by omega) b1 (rwM_bit.mpr ⟨hO.1 _ a1, a2⟩) (rwM_bit.mpr ⟨hO.1 _ b1, b2⟩))).2
  refine ⟨fun v => (f v).1, fun v => (f v).2, mN M G, fun v hv => ?_, fun v w hv hw hvw => ?_, fun r q => q.elim⟩
  · have hv := bs_full.mp hv
    obtain ⟨⟨a1, a2, a3⟩, b1, b2, b3⟩ := hf v hv
    show (f v).1 ≤ (f v).2 ∧ (f v).2 ≤ mN M G
    exact ⟨b3 _ a1 a2, by omega⟩
  · have hv := bs_full.mp hv
    have hw := bs_full.mp hw
    obtain ⟨⟨a1, a2, a3⟩, b1, b2, b3⟩ := hf v hv
    obtain ⟨⟨c1, c2, c3⟩, d1, d2, d3⟩ := hf w hw
    show Eo M v w ↔ (f v).1 ≤ (f w).2 ∧ (f w).1 ≤ (f v).2
    rw [mo_two hs hv hw hvw]
    constructor
    · rintro ⟨k, hk, q1, q2⟩
      obtain ⟨i, hi, rfl⟩ := ho.onto hk
      have := a3 i hi q1
      have := b3 i hi q1
      have := c3 i hi q2
      have := d3 i hi q2
      exact ⟨by omega, by omega⟩
    · rintro ⟨q1, q2⟩
      have q3 := b3 _ a1 a2
      have q4 := d3 _ c1 c2
      by_cases q : (f v).1 ≤ (f w).1
      · exact ⟨o (f w).1, hO.1 _ c1, inn v hv _ q q2, c2⟩
      · exact ⟨o (f v).1, hO.1 _ a1, a2, inn w hw _ (by omega) q1⟩
theorem can_iff (hs : ∀ a b, Eo M a b → Eo M b a) (hi : ∀ a, ¬ Eo M a a) (hG : G ≤ 9) : cnB M (2 ^ G - 1) ↔ mN M G ≤ 9 ∧ 0 < wy (mN M G) (mayS (rwM M G) G) 0 := by
  constructor
  · intro h
    exact ⟨mN_ch hs hG h.1, iv_lay hs (gLay hs hi (N := G) (fun v hv => bs_full.mp hv) h.1 h.2)⟩
  · rintro ⟨-, h⟩
    have := lay_iv hs h
    exact ⟨gIv_ch this, gIv_at hs this⟩
end LineLay
