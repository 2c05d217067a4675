/-! the same, with some who are there from the first hour on -/
section GrC
variable {E : Nat → Nat → Prop}
theorem gRoot (hs : ∀ a b, E a b → E b a) (hi : ∀ a, ¬ E a a) {N : Nat} {V R : Nat → Prop} (hN : ∀ v, V v → v < N) (hC : gCh E V) (hA : gAT E V) (hRV : ∀ r, R r → V r) (hRc : ∀ a b, R a → R b → a ≠ b → E a b) (hRC : gRC E V R) (hex : ∃ r, R r)
    (ih : ∀ V' : Nat → Prop, (∀ v, V' v → V v) → (∃ v, V v ∧ ¬ V' v) → ∀ R : Nat → Prop, (∀ r, R r → V' r) → (∀ a b, R a → R b → a ≠ b → E a b) → gRC E V' R → gIv E V' R) : gIv E V R := by
  obtain ⟨r0, hr0⟩ := hex
  let C : Nat → Prop := fun v => V v ∧ ¬ R v
  obtain ⟨u, hu, hmin⟩ := g_min R (fun u => gSz (fun v => C v ∧ E u v) N) r0 hr0
  have huV := hRV u hu
  let Z : Nat → Prop := fun v => C v ∧ E u v
  let Y : Nat → Prop := fun v => C v ∧ ¬ E u v
  have huY : ∀ y, Y y → gAv E V y u := fun y hy => ⟨huV, fun q => hy.1.2 (q ▸ hu), fun e => hy.2 (hs _ _ e)⟩
  -- all of R have met all of Z
  have hRZ : ∀ r z, R r → Z z → E r z := by
    intro r z hr hz
    refine Classical.byContradiction (fun e => ?_)
    have hru : r ≠ u := fun q => e (q ▸ hz.2)
    have h1 : ∃ q, (C q ∧ E r q) ∧ ¬ (C q ∧ E u q) := Classical.byContradiction (fun h => by
      have h2 := gSz_lt (P := fun v => C v ∧ E r v) (P' := fun v => C v ∧ E u v) (n := N) (fun v hv => Classical.byContradiction (fun k => h ⟨v, hv, k⟩)) (hN z hz.1.1) hz (fun k => e k.2)
      have h3 := hmin r hr
      omega)
    obtain ⟨q, ⟨hqC, hqr⟩, hqu⟩ := h1
    have hqu : ¬ E u q := fun k => hqu ⟨hqC, k⟩
    have hzq : z ≠ q := fun k => hqu (k ▸ hz.2)
    have hur := hRc u r hu hr (fun k => hru k.symm)
    by_cases hE : E z q
    · refine gL4 hs (N := N) (gSz (fun v => v = z ∨ v = r) N) (fun v => v = z) (fun v => v = r) u q (Nat.le_refl _) ?_ ?_ ?_ ?_ hqu (fun k => hqC.2 (k ▸ hu)) ?_ ⟨z, rfl, hz.2⟩ ⟨z, rfl, hs _ _ hE⟩ ⟨r, rfl, hur⟩ ⟨r, rfl, hs _ _ hqr⟩ (hC.sub ?_)
      · rintro v (rfl | rfl)
        · exact hN _ hz.1.1
        · exact hN _ (hRV _ hr)
      · rintro x y rfl rfl; exact gRch.refl
      · rintro x y rfl rfl; exact gRch.refl
      · rintro x y rfl rfl; exact ⟨fun k => e (hs _ _ k), fun k => hz.1.2 (k ▸ hr)⟩
      · rintro v (rfl | rfl)
        · exact ⟨fun k => hz.1.2 (k ▸ hu), hzq⟩
        · exact ⟨hru, fun k => hqC.2 (k ▸ hr)⟩
      · rintro v (rfl | rfl | rfl | rfl)
        · exact huV
        · exact hqC.1
        · exact hz.1.1
        · exact hRV _ hr
    · refine hRC z q hz.1.1 hqC.1 hzq hE ⟨u, hu, ?_⟩ ⟨r, hr, ?_⟩
      · exact gRch.one ⟨hz.1.1, hzq, fun k => hE (hs _ _ k)⟩ ⟨huV, fun k => hqC.2 (k ▸ hu), fun k => hqu (hs _ _ k)⟩ (hs _ _ hz.2)
      · exact gRch.one ⟨hqC.1, fun k => hzq k.symm, hE⟩ ⟨hRV r hr, fun k => hz.1.2 (k ▸ hr), fun k => e (hs _ _ k)⟩ (hs _ _ hqr)
  let Q : Nat → Prop := fun z => Z z ∧ ∃ y, Y y ∧ E z y
  let cp : Nat → Nat → Prop := fun y v => gRch E Y y v
  have cpY : ∀ y v, Y y → cp y v → Y v := fun y v hy h => gRch.mem hy h
  -- two of Q are met from one piece of Y
  have one : ∀ q1 q2, Q q1 → Q q2 → ∃ y, Y y ∧ (∃ v, cp y v ∧ E q1 v) ∧ ∃ v, cp y v ∧ E q2 v := by
    intro q1 q2 ⟨hq1, y1, hy1, e1⟩ ⟨hq2, y2, hy2, e2⟩
    refine Classical.byContradiction (fun h => ?_)
    have h21 : ∀ v, cp y1 v → ¬ E q2 v := fun v hv e => h ⟨y1, hy1, ⟨y1, gRch.refl, e1⟩, v, hv, e⟩
    have h12 : ∀ v, cp y2 v → ¬ E q1 v := fun v hv e => h ⟨y2, hy2, ⟨v, hv, e⟩, y2, gRch.refl, e2⟩
    have hne : y1 ≠ y2 := fun k => h21 y1 gRch.refl (k ▸ e2)
    have hE : ¬ E y1 y2 := fun k => h21 y2 (gRch.one hy1 hy2 k) e2
    have n12 := h12 y2 gRch.refl
    have n21 := h21 y1 gRch.refl
    refine hRC y1 y2 hy1.1.1 hy2.1.1 hne hE ⟨u, hu, ?_⟩ ⟨u, hu, ?_⟩
    · have m1 : gAv E V y2 y1 := ⟨hy1.1.1, hne, fun k => hE (hs _ _ k)⟩
      have m2 : gAv E V y2 q1 := ⟨hq1.1.1, fun k => hy2.2 (k ▸ hq1.2), fun k => n12 (hs _ _ k)⟩
      exact (gRch.one m1 m2 (hs _ _ e1)).step m2 (huY y2 hy2) (hs _ _ hq1.2)
    · have m1 : gAv E V y1 y2 := ⟨hy2.1.1, fun k => hne k.symm, hE⟩
      have m2 : gAv E V y1 q2 := ⟨hq2.1.1, fun k => hy1.2 (k ▸ hq2.2), fun k => n21 (hs _ _ k)⟩
      exact (gRch.one m1 m2 (hs _ _ e2)).step m2 (huY y1 hy1) (hs _ _ hq2.2)
  have hQQ : ∀ a b, Q a → Q b → a ≠ b → E a b := by
    intro a b ha hb hn
    refine Classical.byContradiction (fun e => ?_)
    obtain ⟨y, hy, hya, hyb⟩ := one a b ha hb
    refine gL4 hs (N := N) (gSz (fun v => v = u ∨ cp y v) N) (fun v => v = u) (cp y) a b (Nat.le_refl _) ?_ ?_ (gCon_comp hs hy) ?_ e hn ?_ ⟨u, rfl, hs _ _ ha.1.2⟩ ⟨u, rfl, hs _ _ hb.1.2⟩ (hya.imp (fun v q => ⟨q.1, q.2⟩)) (hyb.imp (fun v q => ⟨q.1, q.2⟩)) (hC.sub ?_)
    · rintro v (rfl | hv)
      · exact hN _ huV
      · exact hN v (cpY y v hy hv).1.1
    · rintro x y rfl rfl; exact gRch.refl
    · rintro x v rfl hv; exact ⟨(cpY y v hy hv).2, fun k => (cpY y v hy hv).1.2 (k ▸ hu)⟩
    · rintro v (rfl | hv)
      · exact ⟨fun k => ha.1.1.2 (k ▸ hu), fun k => hb.1.1.2 (k ▸ hu)⟩
      · exact ⟨fun k => (cpY y v hy hv).2 (k ▸ ha.1.2), fun k => (cpY y v hy hv).2 (k ▸ hb.1.2)⟩
    · rintro v (rfl | rfl | rfl | hv)
      · exact ha.1.1.1
      · exact hb.1.1.1
      · exact huV
      · exact (cpY y v hy hv).1.1
  -- the near side: Z, with Q at its end
  have huZ : ¬ Z u := fun q => q.1.2 hu
  obtain ⟨lo1, hi1, M1, h1a, h1b, h1c⟩ := ih Z (fun v q => q.1.1) ⟨u, huV, huZ⟩ Q (fun r q => q.1) hQQ (by
    intro a b ha hb hn he ⟨q1, hq1, ra⟩ ⟨q2, hq2, rb⟩
    have m1 := gRch.mem (P := gAv E Z b) ⟨ha, hn, fun z => he (hs _ _ z)⟩ ra
    have m2 := gRch.mem (P := gAv E Z a) ⟨hb, fun z => hn z.symm, he⟩ rb
    have na : ¬ Q a := fun q => m2.2.2 (hQQ a q2 q hq2 (fun z => m2.2.1 z.symm))
    have nb : ¬ Q b := fun q => m1.2.2 (hQQ b q1 q hq1 (fun z => m1.2.1 z.symm))
    have aY : ∀ a, Z a → ¬ Q a → ∀ y, Y y → gAv E V a y := fun a ha na y hy => ⟨hy.1.1, fun k => hy.2 (k ▸ ha.2), fun k => na ⟨ha, y, hy, k⟩⟩
    obtain ⟨y, hy, ⟨v1, hv1, e1⟩, v2, hv2, e2⟩ := one q1 q2 hq1 hq2
    have sub : ∀ v, Z v → V v := fun v q => q.1.1
    refine hA a b y ha.1.1 hb.1.1 hy.1.1 hn (fun k => hy.2 (k ▸ ha.2)) (fun k => hy.2 (k ▸ hb.2)) he (aY a ha na y hy).2.2 (aY b hb nb y hy).2.2 ?_ ?_ ?_
    · have n1 : gAv E V y a := ⟨ha.1.1, fun k => hy.2 (k ▸ ha.2), fun k => (aY a ha na y hy).2.2 (hs _ _ k)⟩
      have n2 : gAv E V y b := ⟨hb.1.1, fun k => hy.2 (k ▸ hb.2), fun k => (aY b hb nb y hy).2.2 (hs _ _ k)⟩
      exact (gRch.one n1 (huY y hy) (hs _ _ ha.2)).step (huY y hy) n2 hb.2
    · have k1 := (rb.mono (gAv.sub sub)).step (gAv.sub sub q2 m2) (aY a ha na v2 (cpY y v2 hy hv2)) e2
      exact k1.trans ((hv2.symm hs).mono (aY a ha na))
    · have k1 := (ra.mono (gAv.sub sub)).step (gAv.sub sub q1 m1) (aY b hb nb v1 (cpY y v1 hy hv1)) e1
      exact k1.trans ((hv1.symm hs).mono (aY b hb nb)))
  -- the far side
  let R2 : Nat → Prop := fun v => (R v ∧ v ≠ u) ∨ Q v
  have hR2 : ∀ a b, R2 a → R2 b → a ≠ b → E a b := by
    rintro a b (ha | ha) (hb | hb) hn
    · exact hRc a b ha.1 hb.1 hn
    · exact hRZ a b ha.1 hb.1
    · exact hs _ _ (hRZ b a hb.1 ha.1)
    · exact hQQ a b ha hb hn
  have hV2 : ∀ v, (Y v ∨ R2 v) → V v := by
    rintro v (h | h | h)
    · exact h.1.1
    · exact hRV v h.1
    · exact h.1.1.1
  have hu2 : ¬ (Y u ∨ R2 u) := by
    rintro (h | h | h)
    · exact h.1.2 hu
    · exact h.2 rfl
    · exact huZ h.1
  obtain ⟨lo2, hi2, M2, h2a, h2b, h2c⟩ := ih (fun v => Y v ∨ R2 v) hV2 ⟨u, huV, hu2⟩ R2 (fun r q => Or.inr q) hR2 (by
    intro a b ha hb hn he ⟨r, hr, ra⟩ ⟨t, ht, rb⟩
    have m1 := gRch.mem (P := gAv E (fun v => Y v ∨ R2 v) b) ⟨ha, hn, fun z => he (hs _ _ z)⟩ ra
    have m2 := gRch.mem (P := gAv E (fun v => Y v ∨ R2 v) a) ⟨hb, fun z => hn z.symm, he⟩ rb
    have na : ¬ R2 a := fun q => m2.2.2 (hR2 a t q ht (fun z => m2.2.1 z.symm))
    have nb : ¬ R2 b := fun q => m1.2.2 (hR2 b r q hr (fun z => m1.2.1 z.symm))
    have ha := ha.resolve_right na
    have hb := hb.resolve_right nb
    have eu : ∀ r, R2 r → E r u := fun r hr => hs _ _ (hr.elim (fun q => hRc u r hu q.1 (fun z => q.2 z.symm)) (fun q => q.1.2))
    exact hRC a b ha.1.1 hb.1.1 hn he ⟨u, hu, (ra.mono (gAv.sub hV2)).step (gAv.sub hV2 r m1) (huY b hb) (eu r hr)⟩ ⟨u, hu, (rb.mono (gAv.sub hV2)).step (gAv.sub hV2 t m2) (huY a ha) (eu t ht)⟩)
  have dec : ∀ p : Nat → Prop, ∃ f : Nat → Bool, ∀ v, f v = true ↔ p v := fun p => ⟨fun v => @decide (p v) (Classical.propDecidable _), fun v => @decide_eq_true_iff (p v) (Classical.propDecidable _)⟩
  -- kinds: u 0, R 1, Q 2, Z 3, Y 4
  obtain ⟨fR, hfR⟩ := dec R
  obtain ⟨fZ, hfZ⟩ := dec Z
  obtain ⟨fQ, hfQ⟩ := dec Q
  let K : Nat → Nat := fun v => if v = u then 0 else if fR v then 1 else if fQ v then 2 else if fZ v then 3 else 4
  have kd : ∀ v, V v → (v = u ∧ K v = 0) ∨ (R v ∧ v ≠ u ∧ K v = 1) ∨ (Q v ∧ K v = 2) ∨ (Z v ∧ ¬ Q v ∧ K v = 3) ∨ (Y v ∧ K v = 4) := by
    intro v hv
    by_cases h0 : v = u
    · exact Or.inl ⟨h0, by simp [K, h0]⟩
    by_cases h1 : R v
    · exact Or.inr (Or.inl ⟨h1, h0, by simp [K, h0, (hfR v).mpr h1]⟩)
    have f1 : fR v = false := by cases h : fR v; rfl; exact absurd ((hfR v).mp h) h1
    by_cases h2 : Q v
    · exact Or.inr (Or.inr (Or.inl ⟨h2, by simp [K, h0, f1, (hfQ v).mpr h2]⟩))
    have f2 : fQ v = false := by cases h : fQ v; rfl; exact absurd ((hfQ v).mp h) h2
    by_cases h3 : Z v
    · exact Or.inr (Or.inr (Or.inr (Or.inl ⟨h3, h2, by simp [K, h0, f1, f2, (hfZ v).mpr h3]⟩)))
    have f3 : fZ v = false := by cases h : fZ v; rfl; exact absurd ((hfZ v).mp h) h3
    exact Or.inr (Or.inr (Or.inr (Or.inr ⟨⟨⟨hv, h1⟩, fun e => h3 ⟨⟨hv, h1⟩, e⟩⟩, by simp [K, h0, f1, f2, f3]⟩)))
  let lo : Nat → Nat := fun v => match K v with
    | 0 => 0
    | 1 => 0
    | 2 => M1 - hi1 v
    | 3 => M1 - hi1 v
    | _ => M1 + 1 + lo2 v
  let hi' : Nat → Nat := fun v => match K v with
    | 0 => M1
    | 1 => M1 + 1 + hi2 v
    | 2 => M1 + 1 + hi2 v
    | 3 => M1 - lo1 v
    | _ => M1 + 1 + hi2 v
  refine ⟨lo, hi', M1 + 1 + M2, fun v hv => ?_, fun v w hv hw hn => ?_, fun r hr => ?_⟩
  · rcases kd v hv with ⟨a1, a2⟩ | ⟨a1, a2, a3⟩ | ⟨a1, a2⟩ | ⟨a1, a2, a3⟩ | ⟨a1, a2⟩
    · simp only [lo, hi', a2]; omega
    · have := h2a v (Or.inr (Or.inl ⟨a1, a2⟩)); simp only [lo, hi', a3]; omega
    · have := h2a v (Or.inr (Or.inr a1)); have := h1a v a1.1; simp only [lo, hi', a2]; omega
    · have := h1a v a1; simp only [lo, hi', a3]; omega
    · have := h2a v (Or.inl a1); simp only [lo, hi', a2]; omega
  · have both : ∀ v w, V v → V w → v ≠ w → K v ≤ K w → (E v w ↔ lo v ≤ hi' w ∧ lo w ≤ hi' v) := by
      intro v w hv hw hn hK
      rcases kd v hv with ⟨a1, a2⟩ | ⟨a1, a2, a3⟩ | ⟨a1, a2⟩ | ⟨a1, a2, a3⟩ | ⟨a1, a2⟩ <;> rcases kd w hw with ⟨b1, b2⟩ | ⟨b1, b2, b3⟩ | ⟨b1, b2⟩ | ⟨b1, b2, b3⟩ | ⟨b1, b2⟩
      all_goals first
        | (exfalso; omega)
        | skip
      · -- u, R
        have e := hRc v w (a1 ▸ hu) b1 hn
        simp only [lo, hi', a2, b3]
        exact ⟨fun _ => by omega, fun _ => e⟩
      · have e : E v w := a1 ▸ b1.1.2
        have := h1a w b1.1
        simp only [lo, hi', a2, b2]
        exact ⟨fun _ => by omega, fun _ => e⟩
      · have e : E v w := a1 ▸ b1.2
        have := h1a w b1
        simp only [lo, hi', a2, b3]
        exact ⟨fun _ => by omega, fun _ => e⟩
      · have e : ¬ E v w := a1 ▸ b1.2
        simp only [lo, hi', a2, b2]
        exact ⟨fun q => absurd q e, fun q => by omega⟩
      · have e := hRc v w a1 b1 hn
        simp only [lo, hi', a3, b3]
        exact ⟨fun _ => by omega, fun _ => e⟩
      · have e := hRZ v w a1 b1.1
        simp only [lo, hi', a3, b2]
        exact ⟨fun _ => by omega, fun _ => e⟩
      · have e := hRZ v w a1 b1
        simp only [lo, hi', a3, b3]
        exact ⟨fun _ => by omega, fun _ => e⟩
      · have e := h2b v w (Or.inr (Or.inl ⟨a1, a2⟩)) (Or.inl b1) hn
        have := h2c v (Or.inl ⟨a1, a2⟩)
        rw [e]
        simp only [lo, hi', a3, b2]
        omega
      · have e := hQQ v w a1 b1 hn
        simp only [lo, hi', a2, b2]
        exact ⟨fun _ => by omega, fun _ => e⟩
      · have e := h1b v w a1.1 b1 hn
        have := h1c v a1
        have := h1a v a1.1
        have := h1a w b1
        rw [e]
        simp only [lo, hi', a2, b3]
        omega
      · have e := h2b v w (Or.inr (Or.inr a1)) (Or.inl b1) hn
        have := h2c v (Or.inr a1)
        rw [e]
        simp only [lo, hi', a2, b2]
        omega
      · have e := h1b v w a1 b1 hn
        have := h1a v a1
        have := h1a w b1
        rw [e]
        simp only [lo, hi', a3, b3]
        omega
      · have e : ¬ E v w := fun k => a2 ⟨a1, w, b1, k⟩
        simp only [lo, hi', a3, b2]
        exact ⟨fun q => absurd q e, fun q => by omega⟩
      · have e := h2b v w (Or.inl a1) (Or.inl b1) hn
        rw [e]
        simp only [lo, hi', a2, b2]
        omega
    rcases Nat.le_total (K v) (K w) with h | h
    · exact both v w hv hw hn h
    · have h9 := both w v hw hv (fun z => hn z.symm) h
      exact ⟨fun e => (h9.mp (hs _ _ e)).symm, fun q => hs _ _ (h9.mpr q.symm)⟩
  · rcases kd r (hRV r hr) with ⟨a1, a2⟩ | ⟨a1, a2, a3⟩ | ⟨a1, a2⟩ | ⟨a1, a2, a3⟩ | ⟨a1, a2⟩
    · simp only [lo, a2]
    · simp only [lo, a3]
    · exact absurd hr a1.1.1.2
    · exact absurd hr a1.1.2
    · exact absurd hr a1.1.2
/-- who has no ring and no three can be laid along a line -/
theorem gLine (hs : ∀ a b, E a b → E b a) (hi : ∀ a, ¬ E a a) {N : Nat} : ∀ (n : Nat) (V : Nat → Prop), gSz V N ≤ n → (∀ v, V v → v < N) → gCh E V → gAT E V → gIv E V (fun _ => False) ∧ ∀ R : Nat → Prop, (∀ r, R r → V r) → (∀ a b, R a → R b → a ≠ b → E a b) → gRC E V R → gIv E V R := by
  intro n
  induction n with
  | zero =>
    intro V hn hN _ _
    have hV : ∀ v, ¬ V v := fun v hv => by
      have := gSz_lt (P := fun _ => False) (P' := V) (n := N) (fun _ q => q.elim) (hN v hv) hv (fun q => q)
      omega
    exact ⟨⟨fun _ => 0, fun _ => 0, 0, fun v hv => absurd hv (hV v), fun v _ hv => absurd hv (hV v), fun _ _ => rfl⟩, fun R hR _ _ => ⟨fun _ => 0, fun _ => 0, 0, fun v hv => absurd hv (hV v), fun v _ hv => absurd hv (hV v), fun _ _ => rfl⟩⟩
  | succ n ih =>
    intro V hn hN hC hA
    have ih2 : ∀ V' : Nat → Prop, (∀ v, V' v → V v) → (∃ v, V v ∧ ¬ V' v) → gIv E V' (fun _ => False) ∧ ∀ R : Nat → Prop, (∀ r, R r → V' r) → (∀ a b, R a → R b → a ≠ b → E a b) → gRC E V' R → gIv E V' R := fun V' h1 ⟨v, h2, h3⟩ => ih V' (by have := gSz_lt (n := N) h1 (hN v h2) h2 h3; omega) (fun v q => hN v (h1 v q)) (hC.sub h1) (hA.sub h1)
    have hU := gUnr hs hi hN hC hA ih2
    refine ⟨hU, fun R hRV hRc hRC => ?_⟩
    by_cases hex : ∃ r, R r
    · exact gRoot hs hi hN hC hA hRV hRc hRC hex (fun V' h1 h2 => (ih2 V' h1 h2).2)
    · obtain ⟨lo, hi, M, h1, h2, -⟩ := hU
      exact ⟨lo, hi, M, h1, h2, fun r hr => absurd ⟨r, hr⟩ hex⟩
theorem gLay (hs : ∀ a b, E a b → E b a) (hi : ∀ a, ¬ E a a) {N : Nat} {V : Nat → Prop} (hN : ∀ v, V v → v < N) (hC : gCh E V) (hA : gAT E V) : gIv E V (fun _ => False) := (gLine hs hi _ V (Nat.le_refl _) hN hC hA).1
/-- .. and what lies along a line has neither -/
theorem gIv_ch {V R : Nat → Prop} (h : gIv E V R) : gCh E V := by
  obtain ⟨lo, hi, M, h1, h2, -⟩ := h
  intro T hT ⟨x0, hx0⟩
  obtain ⟨x, hx, hmin⟩ := g_min T hi x0 hx0
  refine ⟨x, hx, fun y z hy hz ey ez => ?_⟩
  by_cases hyz : y = z
  · exact Or.inl hyz
  · refine Or.inr ((h2 y z (hT y hy) (hT z hz) hyz).mpr ?_)
    have key : ∀ y, T y → E x y → lo y ≤ hi x := fun y hy ey => by
      by_cases e : x = y
      · subst e; exact (h1 x (hT x hx)).1
      · exact ((h2 x y (hT x hx) (hT y hy) e).mp ey).2
    have := key y hy ey; have := key z hz ez; have := hmin y hy; have := hmin z hz
    omega
theorem gIv_at (hs : ∀ a b, E a b → E b a) {V R : Nat → Prop} (h : gIv E V R) : gAT E V := by
  obtain ⟨lo, hi, M, h1, h2, -⟩ := h
  -- a way that avoids c stays on one side of it
  have side : ∀ a b c, V a → V b → V c → a ≠ c → ¬ E c a → gRch E (gAv E V c) a b → hi a < lo c → hi b < lo c := by
    intro a b c ha hb hc hn he hr hlt
    have h9 := hr (fun z => V z ∧ hi z < lo c) ⟨ha, hlt⟩ (fun x y hx px py e => by
      refine ⟨py.1, ?_⟩
      by_cases exy : x = y
      · subst exy; exact hx.2
      have q1 := (h2 x y px.1 py.1 exy).mp e
      have q2 := fun k => py.2.2 ((h2 c y hc py.1 (fun z => py.2.1 z.symm)).mpr k)
      have := h1 x px.1; have := h1 y py.1; have := h1 c hc
      have := hx.2
      refine Classical.byContradiction (fun k => q2 ⟨?_, ?_⟩) <;> omega)
    exact h9.2
  have side2 : ∀ a b c, V a → V b → V c → a ≠ c → ¬ E c a → gRch E (gAv E V c) a b → hi c < lo a → hi c < lo b := by
    intro a b c ha hb hc hn he hr hlt
    have h9 := hr (fun z => V z ∧ hi c < lo z) ⟨ha, hlt⟩ (fun x y hx px py e => by
      refine ⟨py.1, ?_⟩
      by_cases exy : x = y
      · subst exy; exact hx.2
      have q1 := (h2 x y px.1 py.1 exy).mp e
      have q2 := fun k => py.2.2 ((h2 c y hc py.1 (fun z => py.2.1 z.symm)).mpr k)
      have := h1 x px.1; have := h1 y py.1; have := h1 c hc
      have := hx.2
      refine Classical.byContradiction (fun k => q2 ⟨?_, ?_⟩) <;> omega)
    exact h9.2
  intro a b c ha hb hc n1 n2 n3 e1 e2 e3 r1 r2 r3
  have d1 : ¬ (lo a ≤ hi b ∧ lo b ≤ hi a) := fun k => e1 ((h2 a b ha hb n1).mpr k)
  have d2 : ¬ (lo a ≤ hi c ∧ lo c ≤ hi a) := fun k => e2 ((h2 a c ha hc n2).mpr k)
  have d3 : ¬ (lo b ≤ hi c ∧ lo c ≤ hi b) := fun k => e3 ((h2 b c hb hc n3).mpr k)
  have f1 := side a b c ha hb hc n2 (fun k => e2 (hs _ _ k)) r1
  have g1 := side2 a b c ha hb hc n2 (fun k => e2 (hs _ _ k)) r1
  have f2 := side b c a hb hc ha (fun z => n1 z.symm) e1 r2
  have g2 := side2 b c a hb hc ha (fun z => n1 z.symm) e1 r2
  have f3 := side a c b ha hc hb n1 (fun k => e1 (hs _ _ k)) r3
  have g3 := side2 a c b ha hc hb n1 (fun k => e1 (hs _ _ k)) r3
  have := h1 a ha; have := h1 b hb; have := h1 c hc
  omega
end GrC
