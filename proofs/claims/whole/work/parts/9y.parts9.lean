/-! the chart by the reference: PARTS -/
section Cov
variable {m : Nat} {C : Nat → Nat → Prop} {a b : Nat}
/-- each place stands in a part -/
theorem Pq_cover (hC : ∀ a b, C a b → a ≤ b ∧ b < m) (h1 : ∀ a, a < m → C a a) (hab : a < b) (hb : b < m) {x : Nat} (hx : a ≤ x ∧ x ≤ b) : ∃ p e, Pq C a b p e ∧ p ≤ x ∧ x ≤ e := by
  have H : ∀ n p e, n + (e - p) = b - a → stI C p e → a ≤ p → e ≤ b → ¬ (p = a ∧ e = b) → p ≤ x → x ≤ e → ∃ p e, Pq C a b p e ∧ p ≤ x ∧ x ≤ e := by
    intro n
    induction n using Nat.strongRecOn with
    | ind n ih =>
      intro p e hn st q1 q2 q3 q4 q5
      by_cases z : Pq C a b p e
      · exact ⟨p, e, z, q4, q5⟩
      · have z2 : ∃ c d, stI C c d ∧ a ≤ c ∧ d ≤ b ∧ ¬ (c = a ∧ d = b) ∧ c ≤ p ∧ e ≤ d ∧ ¬ (c = p ∧ e = d) := Classical.byContradiction fun w => z ⟨st, q1, q2, q3, fun c d w1 w2 w3 w4 w5 w6 => Classical.byContradiction fun w7 => w ⟨c, d, w1, w2, w3, w4, w5, w6, w7⟩⟩
        obtain ⟨c, d, w1, w2, w3, w4, w5, w6, w7⟩ := z2
        exact ih (b - a - (d - c)) (by omega) c d (by omega) w1 w2 w3 w4 (by omega) (by omega)
  exact H (b - a - (x - x)) x x (by omega) (st_one hC h1 (by omega)) hx.1 hx.2 (by omega) (Nat.le_refl _) (Nat.le_refl _)
end Cov
/-- different ones below m are at most m -/
theorem inj_le {f : Nat → Nat} {m : Nat} : ∀ n, (∀ i, i < n → f i < m) → (∀ i j, i < n → j < n → f i = f j → i = j) → n ≤ m := by
  intro n h1 h2
  have H : ∀ k, k ≤ n → gSz (fun x => ∃ i, i < k ∧ f i = x) m = k := by
    intro k
    induction k with
    | zero =>
      intro _
      have h3 := gSz_out (P := fun x => ∃ i, i < 0 ∧ f i = x) (n := 0) (fun v ⟨i, hi, _⟩ => by omega) m
      rw [Nat.zero_add] at h3
      exact h3
    | succ k ih =>
      intro hk
      rw [gSz_add (P := fun x => ∃ i, i < k ∧ f i = x) (w := f k) (fun ⟨i, hi, e⟩ => by have := h2 i k (by omega) (by omega) e; omega) (fun v => ⟨fun ⟨i, hi, e⟩ => by
        by_cases q : i = k
        · subst q; exact Or.inr e.symm
        · exact Or.inl ⟨i, by omega, e⟩, fun q => q.elim (fun ⟨i, hi, e⟩ => ⟨i, by omega, e⟩) (fun e => ⟨k, by omega, e.symm⟩)⟩) (h1 k (by omega)), ih (by omega)]
  have := H n (Nat.le_refl _)
  have := gSz_bd (P := fun x => ∃ i, i < n ∧ f i = x) (n := m)
  omega
/-- the parts as sets -/
def PsV (X : HX) (m : Nat) (o : Nat → Nat) (c : Nat) (pb pe : Nat → Nat) : Prop := ∀ i, i < c → X 22 i = nI (ivS m o (pb i) (pe i))
/-- a part, among sets -/
def pmS (m : Nat) (may : Nat → Nat → Prop) (S T : Nat) : Prop := T ≠ 0 ∧ T < S ∧ (∀ t, Bs T t → Bs S t) ∧ stS m may T ∧ ∀ U, U ≠ 0 → U < S → (∀ t, Bs U t → Bs S t) → stS m may U → (∀ t, Bs T t → Bs U t) → U = T
theorem sub_le {S T : Nat} (h : ∀ t, Bs T t → Bs S t) : T ≤ S := by
  have e : T = T &&& S := Nat.eq_of_testBit_eq fun t => by
    rw [Nat.testBit_and]
    cases q : T.testBit t
    · rfl
    · have := h t q
      have : S.testBit t = true := this
      rw [this]; rfl
  rw [e]; exact Nat.and_le_right
theorem sub_n {S T : Nat} : nAn T S = 0 ↔ ∀ t, Bs T t → Bs S t := by
  have := nAn_ex (S := T) (T := S)
  constructor
  · intro q t ht
    exact Classical.byContradiction fun w => (this.mpr ⟨t, ht, w⟩) q
  · intro q
    exact Classical.byContradiction fun w => by
      obtain ⟨t, t1, t2⟩ := this.mp w
      exact t2 (q t t1)
section PmS
variable {m : Nat} {may : Nat → Nat → Prop} {o : Nat → Nat} {a b : Nat}
theorem pm_iv (h : LyN m may m o) (hab : a ≤ b) (hb : b < m) {T : Nat} : pmS m may (ivS m o a b) T ↔ ∃ p e, Pq (cmI m may o) a b p e ∧ T = ivS m o p e := by
  have hC : ∀ a b, cmI m may o a b → a ≤ b ∧ b < m := fun a b h => ⟨h.1, h.2.1⟩
  constructor
  · rintro ⟨h0, h1, h2, h3, h4⟩
    obtain ⟨p, e, pe, em, rfl⟩ := sb_iv h (Nat.lt_trans h1 iv_lt) h0 h3.1
    have s1 := (iv_sub h pe em hb).mp h2
    have s2 := (st_iv h pe em).mp h3
    refine ⟨p, e, ⟨s2, s1.1, s1.2, fun q => ?_, fun c d w1 w2 w3 w4 w5 w6 => ?_⟩, rfl⟩
    · rw [q.1, q.2] at h1; omega
    · have cd := hC _ _ w1.1
      have e1 := h4 (ivS m o c d) (iv_ne h cd.1 cd.2) (Nat.lt_of_le_of_ne (sub_le ((iv_sub h cd.1 cd.2 hb).mpr ⟨w2, w3⟩)) (fun q => w4 (iv_inj h cd.1 cd.2 hab hb q))) ((iv_sub h cd.1 cd.2 hb).mpr ⟨w2, w3⟩) ((st_iv h cd.1 cd.2).mpr w1) ((iv_sub h pe em cd.2).mpr ⟨w5, w6⟩)
      have := iv_inj h cd.1 cd.2 pe em e1
      exact ⟨this.1, this.2.symm⟩
  · rintro ⟨p, e, q, rfl⟩
    have be := hC _ _ q.1.1
    have sub := (iv_sub h be.1 be.2 hb).mpr ⟨q.2.1, q.2.2.1⟩
    refine ⟨iv_ne h be.1 be.2, Nat.lt_of_le_of_ne (sub_le sub) (fun y => q.2.2.2.1 (iv_inj h be.1 be.2 hab hb y)), sub, (st_iv h be.1 be.2).mpr q.1, fun U U0 U1 U2 U3 U4 => ?_⟩
    obtain ⟨c, d, cd, dm, rfl⟩ := sb_iv h (Nat.lt_trans U1 iv_lt) U0 U3.1
    have s1 := (iv_sub h cd dm hb).mp U2
    have s2 := (st_iv h cd dm).mp U3
    have s3 := (iv_sub h be.1 be.2 dm).mp U4
    have := q.2.2.2.2 c d s2 s1.1 s1.2 (fun y => by rw [y.1, y.2] at U1; omega) s3.1 s3.2
    rw [this.1, this.2]
end PmS
section Prt9
variable {X X' : HX} {Y Y' : HY} {r : Ly} {Q : Qt} {m : Nat} {may : Nat → Nat → Prop} {o : Nat → Nat} {a b : Nat}
theorem X9_parts_s (hm : m ≤ 9) (hO : LyN m may m o) (hab : a ≤ b) (hb : b < m) (hT : BsV X 17 m (stS m may)) (k : ∀ X' c pb pe, (∀ x, x ≠ 0 → x ≠ 22 → X' x = X x) → (∀ i, i ≠ 37 → X' 0 i = X 0 i) → X' 0 37 = nI c → c ≤ 9 → EnP (cmI m may o) a b c pb pe → PsV X' m o c pb pe → Q (.inl none) (LX9 ++ r) X' Y) : tX9_findParts [.ref 0, .int (nI (ivS m o a b))] (LX9 ++ r) X Y Q := by
  have hC : ∀ a b, cmI m may o a b → a ≤ b ∧ b < m := fun a b h => ⟨h.1, h.2.1⟩
  have T9 := pw9 hm
  have S1 := iv_lt (m := m) (o := o) (a := a) (b := b)
  have S0 := iv_ne hO hab hb
  have pmi := fun T => pm_iv (T := T) hO hab hb
  apply tX9_findParts_i
  have H : ∀ n T X2 i pb pe, T + n = ivS m o a b → T ≠ 0 → (∀ x, x ≠ 0 → x ≠ 22 → X2 x = X x) → (∀ i, i ≠ 37 → X2 0 i = X 0 i) → X2 0 37 = nI i → PsV X2 m o i pb pe → (∀ j, j < i → Pq (cmI m may o) a b (pb j) (pe j) ∧ ivS m o (pb j) (pe j) < T) → (∀ p e, Pq (cmI m may o) a b p e → ivS m o p e < T → ∃ j, j < i ∧ pb j = p ∧ pe j = e) → (∀ j l, j < l → l < i → ivS m o (pb j) (pe j) < ivS m o (pb l) (pe l)) → hX9_findParts_7 Q r (nI (ivS m o a b)) (nI T) X2 Y := by
    intro n
    induction n with
    | zero =>
      intro T X2 i pb pe hT2 T0 f g h37 pv q1 q2 q3
      have ij : ∀ j l, j < i → l < i → pb j = pb l → j = l := fun j l hj hl e => by
        have d := Pq_disj hC (q1 j hj).1 (q1 l hl).1
        have b1 := hC _ _ (q1 j hj).1.1.1
        have b2 := hC _ _ (q1 l hl).1.1.1
        have e2 : pe j = pe l := by omega
        rcases Nat.lt_trichotomy j l with q | q | q
        · have := q3 j l q hl; rw [e, e2] at this; omega
        · exact q
        · have := q3 l j q hj; rw [e, e2] at this; omega
      have i9 : i ≤ m := inj_le (f := pb) i (fun j hj => by have := hC _ _ (q1 j hj).1.1.1; omega) ij
      apply hX9_findParts_7_i
      rw [m_le (by omega) (by omega)]
      refine ⟨fun _ => k X2 i pb pe f g h37 (by omega) ⟨fun p e => ⟨fun q => q2 p e q ?_, fun ⟨j, hj, e1, e2⟩ => by rw [← e1, ← e2]; exact (q1 j hj).1⟩, ij⟩ pv, fun q => absurd (by omega) q⟩
      have := ((pmi _).mpr ⟨p, e, q, rfl⟩).2.1
      omega
    | succ n ih =>
      intro T X2 i pb pe hT2 T0 f g h37 pv q1 q2 q3
      have ij : ∀ j l, j < i → l < i → pb j = pb l → j = l := fun j l hj hl e => by
        have d := Pq_disj hC (q1 j hj).1 (q1 l hl).1
        have b1 := hC _ _ (q1 j hj).1.1.1
        have b2 := hC _ _ (q1 l hl).1.1.1
        have e2 : pe j = pe l := by omega
        rcases Nat.lt_trichotomy j l with q | q | q
        · have := q3 j l q hl; rw [e, e2] at this; omega
        · exact q
        · have := q3 l j q hj; rw [e, e2] at this; omega
      have i9 : i ≤ m := inj_le (f := pb) i (fun j hj => by have := hC _ _ (q1 j hj).1.1.1; omega) ij
      have lt1 : nAn T (ivS m o a b) < 2147483648 := Nat.lt_of_le_of_lt (nAn_le _ _) (by omega)
      have hT17 : BsV X2 17 m (stS m may) := hT.of (f 17 (by omega) (by omega))
      have et := hT17.z T0 (by omega)
      have v5 : vp_in (nI T) 512 := (m_in (by omega)).mpr (by omega)
      have cT : (nI T).toNatClampNeg = T := m_clamp (by omega)
      have zz : ∀ x, nAn x (ivS m o a b) < 2147483648 ∨ 512 ≤ x := fun x => by
        by_cases q : x < 512
        · exact Or.inl (Nat.lt_of_le_of_lt (nAn_le _ _) (by omega))
        · omega
      have skip : ¬ pmS m may (ivS m o a b) T → hX9_findParts_7 Q r (nI (ivS m o a b)) (nI (T + 1)) X2 Y := fun hn => ih (T + 1) X2 i pb pe (by omega) (by omega) f g h37 pv (fun j hj => ⟨(q1 j hj).1, by have := (q1 j hj).2; omega⟩) (fun p e h1 h2 => by
        by_cases y : ivS m o p e = T
        · exact absurd ((pmi T).mpr ⟨p, e, h1, y.symm⟩) hn
        · exact q2 p e h1 (by omega)) q3
      apply hX9_findParts_7_i
      rw [m_le (by omega) (by omega), m_andn, cT, m_add]
      have e0 : nI (nAn T (ivS m o a b)) = 0 ↔ ∀ t, Bs T t → Bs (ivS m o a b) t := by
        rw [← sub_n]
        exact m_eq (a := nAn T (ivS m o a b)) (b := 0) lt1 (by omega)
      rw [e0]
      refine ⟨fun q => absurd q (by omega), fun _ => ⟨fun q => skip (fun y => q y.2.2.1), fun q => ⟨v5, fun st => ?_, fun st => skip (fun y => absurd y.2.2.2.1 (et.mp (Classical.not_not.mp st)))⟩⟩⟩
      have qs : ∀ t, Bs T t → Bs (ivS m o a b) t := Classical.not_not.mp q
      have hst : stS m may T := Classical.byContradiction fun y => st (et.mpr y)
      -- is it within another one
      have G : ∀ u U (z : Bool), U + u = ivS m o a b → U ≠ 0 → (z = true ↔ ∀ V, V ≠ 0 → V < U → (∀ t, Bs V t → Bs (ivS m o a b) t) → stS m may V → (∀ t, Bs T t → Bs V t) → V = T) → hX9_findParts_37 Q r (nI (ivS m o a b)) (nI T) (nI z.toNat) (nI U) X2 Y := by
        intro u
        induction u with
        | zero =>
          intro U z hU U0 hz
          have eU : U = ivS m o a b := by omega
          apply hX9_findParts_37_i
          rw [m_le (by omega) (by omega), m_add]
          refine ⟨fun _ => ⟨fun y => skip (fun w => ?_), fun y => ?_⟩, fun w => absurd (by omega) w⟩
          · have := hz.mpr (fun V v0 v1 v2 v3 v4 => w.2.2.2.2 V v0 (by omega) v2 v3 v4)
            rw [z01 y] at this; cases this
          · have pm : pmS m may (ivS m o a b) T := ⟨T0, by omega, qs, hst, fun V v0 v1 v2 v3 v4 => hz.mp (z11 y) V v0 (by omega) v2 v3 v4⟩
            obtain ⟨p, e, pq, eT⟩ := (pmi T).mp pm
            have new : ∀ j, j < i → pb j ≠ p := fun j hj ee => by
              have d := Pq_disj hC (q1 j hj).1 pq
              have b1 := hC _ _ (q1 j hj).1.1.1
              have b2 := hC _ _ pq.1.1
              have := (q1 j hj).2
              have e2 : pe j = e := by omega
              rw [ee, e2] at this; omega
            have i10 : i + 1 ≤ m := inj_le (f := upD pb i p) (i + 1) (fun j hj => by
                unfold upD
                split
                · have := hC _ _ pq.1.1; omega
                · have := hC _ _ (q1 j (by omega)).1.1.1; omega) (fun j l hj hl e => by
                unfold upD at e
                by_cases ej : j = i
                · by_cases el : l = i
                  · omega
                  · rw [if_pos ej, if_neg el] at e; exact absurd e.symm (new l (by omega))
                · by_cases el : l = i
                  · rw [if_neg ej, if_pos el] at e; exact absurd e (new j (by omega))
                  · rw [if_neg ej, if_neg el] at e; exact ij j l (by omega) (by omega) e)
            rw [h37, m_clamp (show i < 2147483648 by omega), up2_out (show (0 : Nat) ≠ 22 by omega), h37, m_add]
            refine ⟨(m_in (by omega)).mpr (by omega), ih (T + 1) _ (i + 1) (upD pb i p) (upD pe i e) (by omega) (by omega) (fun x h0 h22 => by rw [up2_row h0, up2_row h22]; exact f x h0 h22) (fun x hx => by rw [up2_idx hx, up2_row (by omega)]; exact g x hx) up2_same (fun j hj => ?_) (fun j hj => ?_) (fun p' e' h1 h2 => ?_) (fun j l hjl hl => ?_)⟩
            · rw [up2_row (by omega), up2_at]
              unfold upD
              by_cases ej : j = i
              · rw [if_pos ej, if_pos ej, if_pos ej, eT]
              · rw [if_neg ej, if_neg ej, if_neg ej]; exact pv j (by omega)
            · unfold upD
              by_cases ej : j = i
              · rw [if_pos ej, if_pos ej, ← eT]; exact ⟨pq, by omega⟩
              · rw [if_neg ej, if_neg ej]; exact ⟨(q1 j (by omega)).1, by have := (q1 j (by omega)).2; omega⟩
            · by_cases y : ivS m o p' e' = T
              · have b1 := hC _ _ h1.1.1
                have b2 := hC _ _ pq.1.1
                have := iv_inj hO b1.1 b1.2 b2.1 b2.2 (y.trans eT)
                exact ⟨i, by omega, by unfold upD; rw [if_pos rfl]; exact this.1.symm, by unfold upD; rw [if_pos rfl]; exact this.2.symm⟩
              · obtain ⟨j, hj, e1, e2⟩ := q2 p' e' h1 (by omega)
                exact ⟨j, by omega, by unfold upD; rw [if_neg (by omega)]; exact e1, by unfold upD; rw [if_neg (by omega)]; exact e2⟩
            · unfold upD
              rw [if_neg (show ¬ j = i by omega), if_neg (show ¬ j = i by omega)]
              by_cases el : l = i
              · rw [if_pos el, if_pos el, ← eT]; exact (q1 j (by omega)).2
              · rw [if_neg el, if_neg el]; exact q3 j l hjl (by omega)
        | succ u ihu =>
          intro U z hU U0 hz
          have lt2 : nAn U (ivS m o a b) < 2147483648 := Nat.lt_of_le_of_lt (nAn_le _ _) (by omega)
          have lt3 : nAn T U < 2147483648 := Nat.lt_of_le_of_lt (nAn_le _ _) (by omega)
          have eu := hT17.z U0 (by omega)
          have vU : vp_in (nI U) 512 := (m_in (by omega)).mpr (by omega)
          have cU : (nI U).toNatClampNeg = U := m_clamp (by omega)
          have nx : (U ≠ T → (∀ t, Bs U t → Bs (ivS m o a b) t) → stS m may U → (∀ t, Bs T t → Bs U t) → False) → hX9_findParts_37 Q r (nI (ivS m o a b)) (nI T) (nI z.toNat) (nI (U + 1)) X2 Y := fun hn => ihu (U + 1) z (by omega) (by omega) (hz.trans ⟨fun w V v0 v1 v2 v3 v4 => by
            by_cases e : V = U
            · subst e; exact Classical.byContradiction fun y => hn y v2 v3 v4
            · exact w V v0 (by omega) v2 v3 v4, fun w V v0 v1 v2 v3 v4 => w V v0 (by omega) v2 v3 v4⟩)
          apply hX9_findParts_37_i
          rw [m_le (by omega) (by omega), m_eq (a := U) (b := T) (by omega) (by omega), m_andn, m_andn, cU, m_add U 1]
          have e1 : nI (nAn U (ivS m o a b)) = 0 ↔ ∀ t, Bs U t → Bs (ivS m o a b) t := by
            rw [← sub_n]
            exact m_eq (a := nAn U (ivS m o a b)) (b := 0) lt2 (by omega)
          have e2 : nI (nAn T U) = 0 ↔ ∀ t, Bs T t → Bs U t := by
            rw [← sub_n]
            exact m_eq (a := nAn T U) (b := 0) lt3 (by omega)
          rw [e1, e2]
          refine ⟨fun w => absurd w (by omega), fun _ => ⟨fun w => nx (fun y => absurd w y), fun w => ⟨fun w2 => nx (fun _ y => absurd y w2), fun w2 => ⟨vU, fun w3 => nx (fun _ _ y => absurd y (eu.mp w3)), fun w3 => ⟨fun w4 => nx (fun _ _ _ y => absurd y w4), fun w4 => ?_⟩⟩⟩⟩⟩
          have hs : stS m may U := Classical.byContradiction fun y => w3 (eu.mpr y)
          exact ihu (U + 1) false (by omega) (by omega) ⟨fun e => (by cases e), fun y => absurd (y U U0 (by omega) (Classical.not_not.mp w2) hs (Classical.not_not.mp w4)) w⟩
      exact G (ivS m o a b - 1) 1 true (by omega) (by omega) ⟨fun _ V v0 v1 => by omega, fun _ => rfl⟩
  exact H (ivS m o a b - 1) 1 _ 0 (fun _ => 0) (fun _ => 0) (by omega) (by omega) (fun x h0 _ => up2_row h0) (fun i hi => up2_idx hi) up2_same (fun i hi => by omega) (fun j hj => by omega) (fun p e h1 h2 => by
    have b1 := hC _ _ h1.1.1
    have := iv_ne hO b1.1 b1.2
    omega) (fun j l _ h => by omega)
end Prt9
