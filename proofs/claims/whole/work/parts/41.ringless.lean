/-! no ring, by the class -/
theorem gSz_full {P : Nat → Prop} : ∀ {n : Nat}, n ≤ gSz P n → ∀ v, v < n → P v
  | 0, _, v, hv => by omega
  | n + 1, h, v, hv => by
    have h1 := gSz_bd (P := P) (n := n)
    simp only [gSz] at h
    by_cases hp : P n
    · by_cases e : v = n
      · rw [e]; exact hp
      · simp only [hp, if_true] at h
        exact gSz_full (n := n) (by omega) v (by omega)
    · simp only [hp, if_false] at h; omega
theorem gSz_add {P P' : Nat → Prop} {w : Nat} (hP : ¬ P w) (h : ∀ v, P' v ↔ (P v ∨ v = w)) : ∀ {n : Nat}, w < n → gSz P' n = gSz P n + 1
  | 0, hw => by omega
  | n + 1, hw => by
    simp only [gSz]
    by_cases e : w = n
    · subst e
      have : gSz P' w = gSz P w := by
        have key : ∀ k, k ≤ w → gSz P' k = gSz P k := by
          intro k
          induction k with
          | zero => intro _; rfl
          | succ k ih =>
            intro hk
            simp only [gSz]
            rw [ih (by omega)]
            have : P' k ↔ P k := (h k).trans ⟨fun q => q.resolve_right (by omega), Or.inl⟩
            by_cases q : P k <;> simp [q, this]
        exact key w (Nat.le_refl _)
      have h1 : P' w := (h w).mpr (Or.inr rfl)
      simp only [h1, hP, if_true, if_false]; omega
    · have ih := gSz_add hP h (n := n) (by omega)
      have : P' n ↔ P n := (h n).trans ⟨fun q => q.resolve_right (by omega), Or.inl⟩
      by_cases q : P n <;> simp [q, this] <;> omega
theorem last_ex {p : Nat → Prop} : ∀ {n : Nat}, (∃ i, i < n ∧ p i) → ∃ i, i < n ∧ p i ∧ ∀ t, i < t → t < n → ¬ p t
  | 0, ⟨i, h, _⟩ => by omega
  | n + 1, ⟨i, h, hp⟩ => by
    by_cases q : p n
    · exact ⟨n, by omega, q, fun t h1 h2 => by omega⟩
    · have hi : i < n := by
        rcases Nat.lt_or_ge i n with h9 | h9
        · exact h9
        · exact absurd ((by omega : i = n) ▸ hp) q
      obtain ⟨j, h1, h2, h3⟩ := last_ex ⟨i, hi, hp⟩
      refine ⟨j, by omega, h2, fun t h4 h5 => ?_⟩
      by_cases e : t = n
      · rw [e]; exact q
      · exact h3 t h4 (by omega)
/-- a set of whom all have met -/
def gCl (E : Nat → Nat → Prop) (K : Nat → Prop) : Prop := ∀ a b, K a → K b → a ≠ b → E a b
/-- the most that a MOMENT of S has -/
def mxP (E : Nat → Nat → Prop) (S : Nat → Prop) (g : Nat) : Prop := (∃ K : Nat → Prop, (∀ v, K v → S v) ∧ gCl E K ∧ gSz K 64 = g) ∧ ∀ K : Nat → Prop, (∀ v, K v → S v) → gCl E K → gSz K 64 ≤ g
def visP (o : Nat → Nat) (i : Nat) (v : Nat) : Prop := ∃ t, t < i ∧ v = o t
def rlI (M : Nat → Nat) (w S : Nat) (o : Nat → Nat) (j T g : Nat) : Prop :=
  (∀ v, Bs T v ↔ visP o j v) ∧ (∀ i, i < j → o i < w ∧ Bs S (o i)) ∧ (∀ i t, i < j → t < j → o i = o t → i = t) ∧ gSz (Bs T) w = j ∧
  (∀ a b c, a < b → b < c → c < j → Eo M (o c) (o a) → Eo M (o c) (o b) → Eo M (o a) (o b)) ∧
  (∀ i, i < j → ∀ v, Bs S v → ¬ visP o i v → gSz (fun u => Eo M v u ∧ visP o i u) 64 ≤ gSz (fun u => Eo M (o i) u ∧ visP o i u) 64) ∧
  (∀ i, i < j → gSz (fun u => Eo M (o i) u ∧ visP o i u) 64 + 1 ≤ g) ∧ (g = 0 ∨ ∃ i, i < j ∧ g = gSz (fun u => Eo M (o i) u ∧ visP o i u) 64 + 1)
theorem rlI_end {M : Nat → Nat} {w S : Nat} {o : Nat → Nat} {j T g : Nat} (hG : GM w M) (hw : w ≤ 60) (h : rlI M w S o j T g) (hST : ∀ v, Bs S v → Bs T v) : gCh (Eo M) (Bs S) ∧ mxP (Eo M) (Bs S) g := by
  obtain ⟨h1, h2, h3, h4, h5, h6, h7, h8⟩ := h
  have hs : ∀ a b, Eo M a b → Eo M b a := fun a b e => (hG a b e).2.2.2
  refine ⟨peo_ch hs (o := o) (m := j) (fun v hv => (h1 v).mp (hST v hv)) h5, ?_, ?_⟩
  · rcases h8 with h8 | ⟨i, hi, h8⟩
    · refine ⟨fun _ => False, fun _ q => q.elim, fun a b q => q.elim, ?_⟩
      have : ∀ n, gSz (fun _ => False) n = 0 := fun n => by
        induction n with
        | zero => rfl
        | succ n ih => simp [gSz, ih]
      rw [this, h8]
    · refine ⟨fun v => (Eo M (o i) v ∧ visP o i v) ∨ v = o i, ?_, ?_, ?_⟩
      · rintro v (⟨-, t, ht, rfl⟩ | rfl)
        · exact (h2 t (by omega)).2
        · exact (h2 i hi).2
      · rintro a b (⟨ea, t, ht, rfl⟩ | rfl) (⟨eb, s, hs2, rfl⟩ | rfl) hn
        · rcases Nat.lt_trichotomy t s with q | q | q
          · exact h5 t s i q hs2 hi ea eb
          · exact absurd (by rw [q]) hn
          · exact hs _ _ (h5 s t i q ht hi eb ea)
        · exact hs _ _ ea
        · exact eb
        · exact absurd rfl hn
      · rw [gSz_add (w := o i) (P := fun v => Eo M (o i) v ∧ visP o i v) (fun q => (hG _ _ q.1).2.2.1 rfl) (fun v => Iff.rfl) (by have := (h2 i hi).1; omega), h8]
  · intro K hK hcl
    by_cases hex : ∃ v, K v
    · obtain ⟨v, hv⟩ := hex
      obtain ⟨t, ht, e⟩ := (h1 v).mp (hST v (hK v hv))
      obtain ⟨i, hi, hKi, hmax⟩ := last_ex (p := fun i => K (o i)) ⟨t, ht, e ▸ hv⟩
      refine Nat.le_trans ?_ (h7 i hi)
      have sub : ∀ u, K u → (Eo M (o i) u ∧ visP o i u) ∨ u = o i := by
        intro u hu
        by_cases e2 : u = o i
        · exact Or.inr e2
        · obtain ⟨s, hs2, rfl⟩ := (h1 u).mp (hST u (hK u hu))
          refine Or.inl ⟨hcl _ _ hKi hu (fun q => e2 q.symm), s, ?_, rfl⟩
          rcases Nat.lt_trichotomy s i with q | q | q
          · exact q
          · exact absurd (by rw [q]) e2
          · exact absurd hu (hmax s q hs2)
      refine Nat.le_trans (gSz_le sub) (Nat.le_of_eq ?_)
      exact gSz_add (w := o i) (P := fun v => Eo M (o i) v ∧ visP o i v) (fun q => (hG _ _ q.1).2.2.1 rfl) (fun v => Iff.rfl) (by have := (h2 i hi).1; omega)
    · have : gSz K 64 = gSz (fun _ => False) 64 := gSz_eq (fun v => ⟨fun q => hex ⟨v, q⟩, False.elim⟩)
      have z : ∀ n, gSz (fun _ => False) n = 0 := fun n => by
        induction n with
        | zero => rfl
        | succ n ih => simp [gSz, ih]
      rw [this, z]; omega
theorem cnt_sz {m : Nat} : cnt m = gSz (Bs m) 64 := pcn_sz m 64
theorem X4_isRingless_s {Q : Qt} {w : Nat} {r : Ly} {X : HX} {Y : HY} {M : Nat → Nat} {S : Nat} (hV : VM w X Y M) (hG : GM w M) (hS : S < 1152921504606846976) (hSw : ∀ v, Bs S v → v < w)
    (k : ∀ (b : Bool) (X' : HX), (∀ c, c ≠ 0 → c ≠ 2 → X' c = X c) → (∀ i, i ≠ 1 → X' 0 i = X 0 i) → (b = true ↔ gCh (Eo M) (Bs S)) → (b = true → ∃ g, X' 0 1 = nI g ∧ mxP (Eo M) (Bs S) g) → Q (.inl (some (.int (nI b.toNat)))) (LX4 w ++ r) X' Y) : tX4_isRingless [.ref 0, .long (lN S)] (LX4 w ++ r) X Y Q := by
  have hs : ∀ a b, Eo M a b → Eo M b a := fun a b e => (hG a b e).2.2.2
  have hir : ∀ a, ¬ Eo M a a := fun a e => (hG a a e).2.2.1 rfl
  obtain ⟨hw, hX, hM⟩ := hV
  apply tX4_isRingless_i
  have H : ∀ n j T g (o : Nat → Nat) (X' : HX), j + n = w → T < 1152921504606846976 → rlI M w S o j T g → g ≤ 65 → (∀ i, i < j → X' 2 i = nI (o i)) → X' 0 1 = nI g → (∀ c, c ≠ 0 → c ≠ 2 → X' c = X c) → (∀ i, i ≠ 1 → X' 0 i = X 0 i) → hX4_isRingless_10 Q w r (lN S) (lN T) (nI j) X' Y := by
    intro n
    induction n with
    | zero =>
      intro j T g o X' hj hT hI hg ho hg1 f1 f2
      apply hX4_isRingless_10_i
      rw [f2 2 (by omega), hX]
      simp (disch := omega) only [m_0, m_L0, m_lt, m_le, m_eq, m_neg, m_in, m_clamp, m_add, m_sub, m_pred, m_mul, m_l, m_i, m_Land, m_Lor, m_and, m_or, m_xor, m_Landn, m_andn, m_LshlP, m_shl, m_LbitP, m_bit, m_cmp0P, m_Lb0, m_Lb1, m_b0, m_b1, Nat.one_mul]
      refine ⟨fun _ => ⟨(by first | exact Or.inl rfl | exact Or.inr rfl | exact Or.inl trivial | exact Or.inr trivial), ?_⟩, fun h => by omega⟩
      have hST : ∀ v, Bs S v → Bs T v := fun v hv => gSz_full (n := w) (by rw [hI.2.2.2.1]; omega) v (hSw v hv)
      have h9 := rlI_end hG hw hI hST
      exact k true X' f1 f2 ⟨fun _ => h9.1, fun _ => rfl⟩ (fun _ => ⟨g, hg1, h9.2⟩)
    | succ n ih =>
      intro j T g o X' hj hT hI hg ho hg1 f1 f2
      have hV' : VM w X' Y M := ⟨hw, by rw [f2 2 (by omega)]; exact hX, hM⟩
      apply hX4_isRingless_10_i
      rw [f2 2 (by omega), hX]
      simp (disch := omega) only [m_0, m_L0, m_lt, m_le, m_eq, m_neg, m_in, m_clamp, m_add, m_sub, m_pred, m_mul, m_l, m_i, m_Land, m_Lor, m_and, m_or, m_xor, m_Landn, m_andn, m_LshlP, m_shl, m_LbitP, m_bit, m_cmp0P, m_Lb0, m_Lb1, m_b0, m_b1, Nat.one_mul]
      refine ⟨fun h => by omega, fun _ => X4_mostMet_s hV' (by have := nAn_le S T; omega) hT (fun z hz => cK1_mk ⟨fun hz1 => ?_, fun hz1 => ?_⟩)⟩
      · -- one is found
        rcases hz with ⟨rfl, -⟩ | ⟨v, rfl, hv, hvL, hvm⟩
        · exact absurd rfl hz1
        rw [nAn_bit, Bool.and_eq_true, Bool.not_eq_true'] at hvL
        have hvS : Bs S v := hvL.1
        have hvT : ¬ Bs T v := fun q => by rw [show T.testBit v = true from q] at hvL; exact absurd hvL.2 (by simp)
        obtain ⟨h1, h2, h3, h4, h5, h6, h7, h8⟩ := id hI
        let o2 : Nat → Nat := fun i => if i = j then v else o i
        have o2j : o2 j = v := if_pos rfl
        have o2l : ∀ i, i < j → o2 i = o i := fun i hi => if_neg (by omega)
        have vis2 : ∀ i, i ≤ j → ∀ u, visP o2 i u ↔ visP o i u := fun i hi u => ⟨fun ⟨t, ht, e⟩ => ⟨t, ht, by rw [e, o2l t (by omega)]⟩, fun ⟨t, ht, e⟩ => ⟨t, ht, by rw [e, o2l t (by omega)]⟩⟩
        have hvis : ∀ u, Bs T u ↔ visP o2 j u := fun u => (h1 u).trans (vis2 j (Nat.le_refl _) u).symm
        have bD : ∀ u, (M v &&& T).testBit u = true ↔ Eo M v u ∧ visP o2 j u := fun u => by
          rw [Nat.testBit_and, Bool.and_eq_true, ← hvis u]; rfl
        have cD : ∀ x, cnt (M x &&& T) = gSz (fun u => Eo M x u ∧ visP o2 j u) 64 := fun x => by
          rw [cnt_sz]
          exact gSz_eq (fun u => by
            show (M x &&& T).testBit u = true ↔ _
            rw [Nat.testBit_and, Bool.and_eq_true, ← hvis u]; rfl)
        rw [m_zI]
        simp (disch := omega) only [m_0, m_L0, m_lt, m_le, m_eq, m_neg, m_in, m_clamp, m_add, m_sub, m_pred, m_mul, m_l, m_i, m_Land, m_Lor, m_and, m_or, m_xor, m_Landn, m_andn, m_LshlP, m_shl, m_LbitP, m_bit, m_cmp0P, m_Lb0, m_Lb1, m_b0, m_b1, Nat.one_mul, (hM v hv).1]
        refine ⟨hv, X4_haveMet_s (o := o) hV' (Nat.lt_of_le_of_lt Nat.and_le_left (hM v hv).2) (by omega) (fun i hi => ⟨ho i hi, (h2 i hi).1⟩) (fun b hb => cK1_mk ⟨fun hb1 => ?_, fun hb1 => ?_⟩)⟩
        · have hb2 : b = true := by cases b; exact absurd rfl hb1; rfl
          have hm := hb.mp hb2
          refine bc64 (and60 (hM v hv).2) (cK1_mk (tMax_i (cK1_mk ⟨by omega, ?_⟩)))
          rw [hg1]
          have hc := cnt_le (M v &&& T)
          have em : (if nI g < nI (cnt (M v &&& T) + 1) then nI (cnt (M v &&& T) + 1) else nI g) = nI (if g < cnt (M v &&& T) + 1 then cnt (M v &&& T) + 1 else g) := by
            by_cases q : g < cnt (M v &&& T) + 1
            · rw [if_pos q, if_pos ((m_lt (by omega) (by omega)).mpr q)]
            · rw [if_neg q, if_neg (fun h => q ((m_lt (by omega) (by omega)).mp h))]
          simp (disch := omega) only [m_0, m_L0, m_lt, m_le, m_eq, m_neg, m_in, m_clamp, m_add, m_sub, m_pred, m_mul, m_l, m_i, m_Land, m_Lor, m_and, m_or, m_xor, m_Landn, m_andn, m_LshlP, m_shl, m_LbitP, m_bit, m_cmp0P, m_Lb0, m_Lb1, m_b0, m_b1, Nat.one_mul, em]
          have hT2 : T ||| 2 ^ v < 1152921504606846976 := by
            have := Nat.or_lt_two_pow (n := 60) (x := T) (y := 2 ^ v) hT (Nat.pow_lt_pow_right (by omega) (by omega))
            exact this
          refine ih (j + 1) (T ||| 2 ^ v) (if g < cnt (M v &&& T) + 1 then cnt (M v &&& T) + 1 else g) o2 _ (by omega) hT2 ⟨?_, ?_, ?_, ?_, ?_, ?_, ?_, ?_⟩ (by split <;> omega) ?_ ?_ ?_ ?_
          · intro u
            show (T ||| 2 ^ v).testBit u = true ↔ _
            rw [Nat.testBit_or, Nat.testBit_two_pow, Bool.or_eq_true, decide_eq_true_eq]
            constructor
            · rintro (q | q)
              · obtain ⟨t, ht, e⟩ := (hvis u).mp q
                exact ⟨t, by omega, e⟩
              · exact ⟨j, by omega, by rw [o2j, q]⟩
            · rintro ⟨t, ht, e⟩
              by_cases q : t = j
              · right; rw [e, q, o2j]
              · left; exact (hvis u).mpr ⟨t, by omega, e⟩
          · intro i hi
            by_cases q : i = j
            · rw [q, o2j]; exact ⟨hv, hvS⟩
            · rw [o2l i (by omega)]; exact h2 i (by omega)
          · intro i t hi ht e
            by_cases q : i = j
            · by_cases q2 : t = j
              · omega
              · rw [q, o2j] at e
                exact absurd ((hvis v).mpr ⟨t, by omega, e⟩) hvT
            · by_cases q2 : t = j
              · rw [q2, o2j] at e
                exact absurd ((hvis v).mpr ⟨i, by omega, e.symm⟩) hvT
              · rw [o2l i (by omega), o2l t (by omega)] at e
                exact h3 i t (by omega) (by omega) e
          · rw [gSz_add (w := v) (P := Bs T) hvT (fun u => by
              show (T ||| 2 ^ v).testBit u = true ↔ _
              rw [Nat.testBit_or, Nat.testBit_two_pow, Bool.or_eq_true, decide_eq_true_eq]
              exact ⟨fun q => q.imp id (fun q => q.symm), fun q => q.imp id (fun q => q.symm)⟩) hv, h4]
          · intro a b c hab hbc hcj ea eb
            by_cases q : c = j
            · subst q
              rw [o2j] at ea eb
              rw [o2l a (by omega)] at ea ⊢
              rw [o2l b (by omega)] at eb ⊢
              obtain ⟨i, hi, hDi, hmax⟩ := last_ex (p := fun i => (M v &&& T).testBit (o i) = true) ⟨b, hbc, (bD _).mpr ⟨eb, b, hbc, (o2l b hbc).symm⟩⟩
              have hall := hm i hi hDi (fun t h1 h2 => by cases h : (M v &&& T).testBit (o t); rfl; exact absurd h (hmax t h1 h2))
              have hbi : b ≤ i := Nat.le_of_not_lt (fun q => hmax b q hbc ((bD _).mpr ⟨eb, b, hbc, (o2l b hbc).symm⟩))
              have hDa : (M v &&& T).testBit (o a) = true := (bD _).mpr ⟨ea, a, by omega, (o2l a (by omega)).symm⟩
              have e1 : Eo M (o i) (o a) := hall (o a) hDa (fun q => by have := h3 a i (by omega) hi q; omega)
              by_cases q : b = i
              · rw [q]; exact hs _ _ e1
              · have e2 : Eo M (o i) (o b) := hall (o b) ((bD _).mpr ⟨eb, b, hbc, (o2l b hbc).symm⟩) (fun q2 => q (h3 b i (by omega) hi q2))
                exact h5 a b i hab (by omega) hi e1 e2
            · rw [o2l c (by omega), o2l a (by omega)] at ea
              rw [o2l c (by omega), o2l b (by omega)] at eb
              rw [o2l a (by omega), o2l b (by omega)]
              exact h5 a b c hab hbc (by omega) ea eb
          · intro i hi u huS hun
            by_cases q : i = j
            · subst q
              rw [o2j, ← cD, ← cD]
              refine hvm u (hSw u huS) ?_
              rw [nAn_bit, show S.testBit u = true from huS]
              have : ¬ T.testBit u = true := fun q => hun ((hvis u).mp q)
              simp [this]
            · have hun' : ¬ visP o i u := fun q => hun ((vis2 i (by omega) u).mpr q)
              have := h6 i (by omega) u huS hun'
              rw [o2l i (by omega)]
              rw [gSz_eq (P := fun x => Eo M u x ∧ visP o2 i x) (P' := fun x => Eo M u x ∧ visP o i x) (fun x => and_congr_right fun _ => vis2 i (by omega) x), gSz_eq (P := fun x => Eo M (o i) x ∧ visP o2 i x) (P' := fun x => Eo M (o i) x ∧ visP o i x) (fun x => and_congr_right fun _ => vis2 i (by omega) x)]
              exact this
          · intro i hi
            by_cases q : i = j
            · subst q
              rw [o2j, ← cD]
              split <;> omega
            · have := h7 i (by omega)
              rw [o2l i (by omega), gSz_eq (P := fun x => Eo M (o i) x ∧ visP o2 i x) (P' := fun x => Eo M (o i) x ∧ visP o i x) (fun x => and_congr_right fun _ => vis2 i (by omega) x)]
              split <;> omega
          · by_cases q : g < cnt (M v &&& T) + 1
            · exact Or.inr ⟨j, by omega, by rw [if_pos q, o2j, ← cD]⟩
            · rw [if_neg q]
              rcases h8 with h8 | ⟨i, hi, h8⟩
              · omega
              · exact Or.inr ⟨i, by omega, by rw [h8, o2l i hi, gSz_eq (P := fun x => Eo M (o i) x ∧ visP o2 i x) (P' := fun x => Eo M (o i) x ∧ visP o i x) (fun x => and_congr_right fun _ => vis2 i (by omega) x)]⟩
          · intro i hi
            by_cases q : i = j
            · rw [q, o2j]; simp [up2]
            · rw [o2l i (by omega)]
              simp only [up2, q, if_false, if_true, show ¬ (2 : Nat) = 0 by omega]
              exact ho i (by omega)
          · simp only [up2, if_true, show ¬ (0 : Nat) = 2 by omega, if_false]
            split <;> rfl
          · intro c h0 h2
            funext i
            simp only [up2, h0, h2, if_false]
            rw [f1 c h0 h2]
          · intro i hi
            simp only [up2, hi, if_false, if_true, show ¬ (0 : Nat) = 2 by omega]
            exact f2 i hi
        · -- the ring
          have hb2 : b = false := by
            cases b
            · rfl
            · exact absurd (by decide) hb1
          subst hb2
          refine ⟨(by first | exact Or.inl rfl | exact Or.inr rfl | exact Or.inl trivial | exact Or.inr trivial), k false X' f1 f2 ⟨fun h => (by cases h), fun hC => ?_⟩ (fun h => by cases h)⟩
          exfalso
          have hnm : ¬ hmP M o j (M v &&& T) := fun q => by have := hb.mpr q; cases this
          apply hnm
          intro i hi hDi hmax u hu hne
          obtain ⟨-, hui⟩ := (bD u).mp hu
          obtain ⟨t, ht, e⟩ := hui
          rw [o2l t ht] at e
          have hti : t < i := by
            rcases Nat.lt_trichotomy t i with q | q | q
            · exact q
            · exact absurd (by rw [e, q]) hne
            · have := hmax t q ht; rw [← e, hu] at this; cases this
          have mx : ∀ i l, i < l → l < j + 1 → gSz (fun v => Eo M (o2 l) v ∧ ∃ t, t < i ∧ v = o2 t) 64 ≤ gSz (fun v => Eo M (o2 i) v ∧ ∃ t, t < i ∧ v = o2 t) 64 := by
            intro i l hil hl
            have hSl : Bs S (o2 l) := by
              by_cases q : l = j
              · rw [q, o2j]; exact hvS
              · rw [o2l l (by omega)]; exact (h2 l (by omega)).2
            have hnl : ¬ visP o i (o2 l) := by
              rintro ⟨t, ht, e⟩
              by_cases q : l = j
              · rw [q, o2j] at e
                exact hvT ((h1 v).mpr ⟨t, by omega, e⟩)
              · rw [o2l l (by omega)] at e
                have := h3 l t (by omega) (by omega) e; omega
            have := h6 i (by omega) (o2 l) hSl hnl
            rw [← o2l i (by omega)] at this
            exact Nat.le_trans (Nat.le_of_eq (gSz_eq (fun x => and_congr_right fun _ => vis2 i (by omega) x))) (Nat.le_trans this (Nat.le_of_eq (gSz_eq (fun x => and_congr_right fun _ => (vis2 i (by omega) x).symm))))
          have key := mcs_clique hs hir (N := 64) (V := Bs S) (fun v hv => by have := hSw v hv; omega) hC (o := o2) (m := j + 1) (fun l hl => by
              by_cases q : l = j
              · rw [q, o2j]; exact hvS
              · rw [o2l l (by omega)]; exact (h2 l (by omega)).2) (fun a b ha hb e => by
              by_cases q : a = j
              · by_cases q2 : b = j
                · omega
                · rw [q, o2j, o2l b (by omega)] at e
                  exact absurd ((h1 v).mpr ⟨b, by omega, e⟩) hvT
              · by_cases q2 : b = j
                · rw [q2, o2j, o2l a (by omega)] at e
                  exact absurd ((h1 v).mpr ⟨a, by omega, e.symm⟩) hvT
                · rw [o2l a (by omega), o2l b (by omega)] at e
                  exact h3 a b (by omega) (by omega) e) mx (i := t) (j := i) (k := j) hti hi (by omega) (by rw [o2j, o2l t ht, ← e]; exact ((bD u).mp hu).1) (by rw [o2j, o2l i hi]; exact ((bD _).mp hDi).1)
          rw [o2l t ht, o2l i hi] at key
          rw [e]; exact hs _ _ key
      · -- none is left
        have hz2 : z = -1 := by
          rcases hz with ⟨h, -⟩ | ⟨v, rfl, hv, -⟩
          · exact h
          · have := Classical.not_not.mp hz1
            rw [m_zI, m_neg (by omega)] at this; exact this.elim
        rcases hz with ⟨-, hn⟩ | ⟨v, h, -⟩
        · refine ⟨(by first | exact Or.inl rfl | exact Or.inr rfl | exact Or.inl trivial | exact Or.inr trivial), ?_⟩
          have hST : ∀ v, Bs S v → Bs T v := fun v hv => by
            have := hn v (hSw v hv)
            rw [nAn_bit, show S.testBit v = true from hv] at this
            cases h : T.testBit v
            · rw [h] at this; cases this
            · exact h
          have h9 := rlI_end hG hw hI hST
          exact k true X' f1 f2 ⟨fun _ => h9.1, fun _ => rfl⟩ (fun _ => ⟨g, hg1, h9.2⟩)
        · omega
  refine H w 0 0 0 (fun _ => 0) _ (by omega) (by omega) ⟨fun v => ⟨fun h => by simp [Bs] at h, fun ⟨t, ht, _⟩ => by omega⟩, fun i hi => by omega, fun i t hi => by omega, ?_, fun a b c _ _ h => by omega, fun i hi => by omega, fun i hi => by omega, Or.inl rfl⟩ (by omega) (fun i hi => by omega) (by simp [up2]) ?_ ?_
  · have : ∀ n, gSz (Bs 0) n = 0 := fun n => by
      induction n with
      | zero => rfl
      | succ n ih => simp [gSz, ih, Bs]
    exact this w
  · intro c h0 h2
    funext i
    simp only [up2, h0, if_false]
  · intro i hi
    simp only [up2, hi, if_false, if_true]
