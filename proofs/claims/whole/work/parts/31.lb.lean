/-! stays along a line: who has no ring and no three can be laid -/
section GrB
variable {E : Nat → Nat → Prop}
def gAv (E : Nat → Nat → Prop) (V : Nat → Prop) (b : Nat) : Nat → Prop := fun v => V v ∧ v ≠ b ∧ ¬ E b v
def gAT (E : Nat → Nat → Prop) (V : Nat → Prop) : Prop := ∀ a b c, V a → V b → V c → a ≠ b → a ≠ c → b ≠ c → ¬ E a b → ¬ E a c → ¬ E b c → gRch E (gAv E V c) a b → gRch E (gAv E V a) b c → gRch E (gAv E V b) a c → False
def gRC (E : Nat → Nat → Prop) (V R : Nat → Prop) : Prop := ∀ a b, V a → V b → a ≠ b → ¬ E a b → (∃ r, R r ∧ gRch E (gAv E V b) a r) → (∃ r, R r ∧ gRch E (gAv E V a) b r) → False
def gIv (E : Nat → Nat → Prop) (V R : Nat → Prop) : Prop := ∃ (lo hi : Nat → Nat) (M : Nat), (∀ v, V v → lo v ≤ hi v ∧ hi v ≤ M) ∧ (∀ v w, V v → V w → v ≠ w → (E v w ↔ lo v ≤ hi w ∧ lo w ≤ hi v)) ∧ ∀ r, R r → lo r = 0
theorem gAv.sub {V V' : Nat → Prop} (h : ∀ v, V v → V' v) {b : Nat} : ∀ v, gAv E V b v → gAv E V' b v := fun v q => ⟨h v q.1, q.2⟩
theorem gAT.sub {V V' : Nat → Prop} (h : gAT E V') (hs : ∀ v, V v → V' v) : gAT E V := fun a b c ha hb hc h1 h2 h3 e1 e2 e3 r1 r2 r3 =>
  h a b c (hs a ha) (hs b hb) (hs c hc) h1 h2 h3 e1 e2 e3 (r1.mono (gAv.sub hs)) (r2.mono (gAv.sub hs)) (r3.mono (gAv.sub hs))
theorem gUnr (hs : ∀ a b, E a b → E b a) (hi : ∀ a, ¬ E a a) {N : Nat} {V : Nat → Prop} (hN : ∀ v, V v → v < N) (hC : gCh E V) (hA : gAT E V)
    (ih : ∀ V' : Nat → Prop, (∀ v, V' v → V v) → (∃ v, V v ∧ ¬ V' v) → gIv E V' (fun _ => False) ∧ ∀ R : Nat → Prop, (∀ r, R r → V' r) → (∀ a b, R a → R b → a ≠ b → E a b) → gRC E V' R → gIv E V' R) : gIv E V (fun _ => False) := by
  by_cases hcm : ∀ a b, V a → V b → a ≠ b → E a b
  · exact ⟨fun _ => 0, fun _ => 0, 0, fun _ _ => ⟨Nat.le_refl _, Nat.le_refl _⟩, fun v w hv hw hn => ⟨fun _ => ⟨Nat.le_refl _, Nat.le_refl _⟩, fun _ => hcm v w hv hw hn⟩, fun _ q => q.elim⟩
  have h0 : ∃ q : Nat × Nat, V q.1 ∧ gAv E V q.1 q.2 := Classical.byContradiction (fun q => hcm (fun a b ha hb hn => Classical.byContradiction (fun e => q ⟨(a, b), ha, hb, fun z => hn z.symm, e⟩)))
  obtain ⟨q0, hq0⟩ := h0
  obtain ⟨⟨c, d⟩, ⟨hc, hd⟩, hmax⟩ := g_max (fun q : Nat × Nat => V q.1 ∧ gAv E V q.1 q.2) (fun q => gSz (fun v => gRch E (gAv E V q.1) q.2 v) N) N (fun _ => gSz_bd) q0 hq0
  dsimp only at hc hd
  let D : Nat → Prop := fun v => gRch E (gAv E V c) d v
  let S : Nat → Prop := fun s => V s ∧ ¬ D s ∧ ∃ v, D v ∧ E s v
  have hD : ∀ v, D v → gAv E V c v := fun v q => gRch.mem hd q
  have hDd : D d := gRch.refl
  have hDc : gCon E D := gCon_comp hs hd
  have hSc : ∀ s, S s → E c s := fun s ⟨h1, h2, v, h3, h4⟩ => Classical.byContradiction (fun e => by
    have hne : s ≠ c := fun q => by subst q; exact (hD v h3).2.2 h4
    exact h2 (gRch.step h3 (hD v h3) ⟨h1, hne, e⟩ (hs _ _ h4)))
  have hWS : ∀ w s, V w → ¬ D w → ¬ S w → S s → E w s := by
    intro w s hw hwD hwS hsS
    have hsub : ∀ v, D v → gAv E V w v := fun v hv => ⟨(hD v hv).1, fun q => hwD (q ▸ hv), fun e => hwS ⟨hw, hwD, v, hv, e⟩⟩
    have hle : ∀ v, D v → gRch E (gAv E V w) d v := fun v hv => (gRch.inner hd hv).mono hsub
    refine Classical.byContradiction (fun e => ?_)
    have hne : s ≠ w := fun q => hwS (q ▸ hsS)
    obtain ⟨h1, h2, v, h3, h4⟩ := hsS
    have hin : gRch E (gAv E V w) d s := (hle v h3).step (hsub v h3) ⟨h1, hne, e⟩ (hs _ _ h4)
    have h5 : gSz (fun v => gRch E (gAv E V c) d v) N < gSz (fun v => gRch E (gAv E V w) d v) N := gSz_lt (n := N) hle (hN s h1) hin h2
    have h6 := hmax (w, d) ⟨hw, hsub d hDd⟩
    dsimp only at h6
    omega
  have hSS : ∀ a b, S a → S b → a ≠ b → E a b := by
    intro a b ha hb hn
    refine Classical.byContradiction (fun e => ?_)
    refine gL4 hs (N := N) (gSz (fun v => v = c ∨ D v) N) (fun v => v = c) D a b (Nat.le_refl _) ?_ ?_ hDc ?_ e hn ?_ ⟨c, rfl, hs _ _ (hSc a ha)⟩ ⟨c, rfl, hs _ _ (hSc b hb)⟩ ha.2.2 hb.2.2 (hC.sub ?_)
    · rintro v (rfl | hv)
      · exact hN _ hc
      · exact hN v (hD v hv).1
    · rintro x y rfl rfl; exact gRch.refl
    · rintro x y rfl hy; exact ⟨(hD y hy).2.2, fun q => (hD y hy).2.1 q.symm⟩
    · rintro v (rfl | hv)
      · exact ⟨fun q => hi _ (q ▸ hSc a ha), fun q => hi _ (q ▸ hSc b hb)⟩
      · exact ⟨fun q => ha.2.1 (q ▸ hv), fun q => hb.2.1 (q ▸ hv)⟩
    · rintro v (rfl | rfl | rfl | hv)
      · exact ha.1
      · exact hb.1
      · exact hc
      · exact (hD v hv).1
  have hcD : ¬ D c := fun q => (hD c q).2.1 rfl
  have hcS : ¬ S c := fun q => hi c (hSc c q)
  -- what is beyond
  obtain ⟨lo1, hi1, M1, h1a, h1b, -⟩ := (ih (fun v => V v ∧ ¬ D v ∧ ¬ S v) (fun v q => q.1) ⟨d, hd.1, fun q => q.2.1 hDd⟩).1
  have hDS : ∀ v, (D v ∨ S v) → V v := fun v q => q.elim (fun q => (hD v q).1) (fun q => q.1)
  obtain ⟨lo2, hi2, M2, h2a, h2b, h2c⟩ := (ih (fun v => D v ∨ S v) hDS ⟨c, hc, fun q => q.elim hcD hcS⟩).2 S (fun r q => Or.inr q) hSS (by
    intro a b ha hb hn he ⟨r, hr, hra⟩ ⟨t, ht, htb⟩
    have na : ¬ S a := fun q => by
      have h9 := gRch.mem (P := gAv E (fun v => D v ∨ S v) a) ⟨hb, fun z => hn z.symm, he⟩ htb
      exact h9.2.2 (hSS a t q ht (fun z => h9.2.1 z.symm))
    have nb : ¬ S b := fun q => by
      have h9 := gRch.mem (P := gAv E (fun v => D v ∨ S v) b) ⟨ha, hn, fun z => he (hs _ _ z)⟩ hra
      exact h9.2.2 (hSS b r q hr (fun z => h9.2.1 z.symm))
    have ha := ha.resolve_right na
    have hb := hb.resolve_right nb
    have hac := hD a ha
    have hbc := hD b hb
    have cav : ∀ v, D v → gAv E V v c := fun v hv => ⟨hc, fun q => hcD (q ▸ hv), fun e => (hD v hv).2.2 (hs _ _ e)⟩
    refine hA a b c hac.1 hbc.1 hc hn hac.2.1 hbc.2.1 he (fun e => hac.2.2 (hs _ _ e)) (fun e => hbc.2.2 (hs _ _ e)) ?_ ?_ ?_
    · exact (hDc a b ha hb).mono hD
    · have h9 := gRch.mem (P := gAv E (fun v => D v ∨ S v) a) ⟨Or.inl hb, fun z => hn z.symm, he⟩ htb
      exact (htb.mono (gAv.sub hDS)).step (gAv.sub hDS t h9) (cav a ha) (hs _ _ (hSc t ht))
    · have h9 := gRch.mem (P := gAv E (fun v => D v ∨ S v) b) ⟨Or.inl ha, hn, fun z => he (hs _ _ z)⟩ hra
      exact (hra.mono (gAv.sub hDS)).step (gAv.sub hDS r h9) (cav b hb) (hs _ _ (hSc r hr)))
  have dec : ∀ p : Nat → Prop, ∃ f : Nat → Bool, ∀ v, f v = true ↔ p v := fun p => ⟨fun v => @decide (p v) (Classical.propDecidable _), fun v => @decide_eq_true_iff (p v) (Classical.propDecidable _)⟩
  obtain ⟨fD, hfD⟩ := dec D
  obtain ⟨fS, hfS⟩ := dec S
  have hSD : ∀ v, S v → ¬ D v := fun v q => q.2.1
  have hDw : ∀ v w, V w → D v → ¬ D w → ¬ S w → ¬ E v w ∧ ¬ E w v := fun v w hw hv h1 h2 => ⟨fun e => h2 ⟨hw, h1, v, hv, hs _ _ e⟩, fun e => h2 ⟨hw, h1, v, hv, e⟩⟩
  refine ⟨fun v => if fS v then 0 else if fD v then M1 + 1 + lo2 v else lo1 v, fun v => if fS v then M1 + 1 + hi2 v else if fD v then M1 + 1 + hi2 v else hi1 v, M1 + 1 + M2, fun v hv => ?_, fun v w hv hw hn => ?_, fun _ q => q.elim⟩
  · by_cases s1 : S v
    · have := h2a v (Or.inr s1)
      simp only [(hfS v).mpr s1, if_true]; omega
    · by_cases d1 : D v
      · have := h2a v (Or.inl d1)
        simp only [(hfD v).mpr d1, if_true, show fS v = false from by have := (hfS v); cases h : fS v <;> simp_all, Bool.false_eq_true, if_false]; omega
      · have := h1a v ⟨hv, d1, s1⟩
        simp only [show fD v = false from by have := (hfD v); cases h : fD v <;> simp_all, show fS v = false from by have := (hfS v); cases h : fS v <;> simp_all, Bool.false_eq_true, if_false]; omega
  · have sv : ∀ v, (S v ∧ fS v = true) ∨ (D v ∧ ¬ S v ∧ fS v = false ∧ fD v = true) ∨ (¬ D v ∧ ¬ S v ∧ fS v = false ∧ fD v = false) := fun v => by
      by_cases s1 : S v
      · exact Or.inl ⟨s1, (hfS v).mpr s1⟩
      · have s2 : fS v = false := by cases h : fS v; rfl; exact absurd ((hfS v).mp h) s1
        by_cases d1 : D v
        · exact Or.inr (Or.inl ⟨d1, s1, s2, (hfD v).mpr d1⟩)
        · exact Or.inr (Or.inr ⟨d1, s1, s2, by cases h : fD v; rfl; exact absurd ((hfD v).mp h) d1⟩)
    rcases sv v with ⟨a1, a2⟩ | ⟨a1, a2, a3, a4⟩ | ⟨a1, a2, a3, a4⟩ <;> rcases sv w with ⟨b1, b2⟩ | ⟨b1, b2, b3, b4⟩ | ⟨b1, b2, b3, b4⟩ <;> simp only [*, if_true, if_false, Bool.false_eq_true]
    · exact ⟨fun _ => ⟨Nat.zero_le _, Nat.zero_le _⟩, fun _ => hSS v w a1 b1 hn⟩
    · have := h2b v w (Or.inr a1) (Or.inl b1) hn
      have := h2c v a1
      rw [‹E v w ↔ _›]; omega
    · have := h1a w ⟨hw, b1, b2⟩
      exact ⟨fun _ => ⟨Nat.zero_le _, by omega⟩, fun _ => hs _ _ (hWS w v hw b1 b2 a1)⟩
    · have := h2b v w (Or.inl a1) (Or.inr b1) hn
      have := h2c w b1
      rw [‹E v w ↔ _›]; omega
    · have := h2b v w (Or.inl a1) (Or.inl b1) hn
      rw [‹E v w ↔ _›]; omega
    · have := h1a w ⟨hw, b1, b2⟩
      refine ⟨fun e => absurd e (hDw v w hw a1 b1 b2).1, fun q => ?_⟩; omega
    · have := h1a v ⟨hv, a1, a2⟩
      exact ⟨fun _ => ⟨by omega, Nat.zero_le _⟩, fun _ => hWS v w hv a1 a2 b1⟩
    · have := h1a v ⟨hv, a1, a2⟩
      refine ⟨fun e => absurd e (hDw w v hv b1 a1 a2).2, fun q => ?_⟩; omega
    · exact h1b v w ⟨hv, a1, a2⟩ ⟨hw, b1, b2⟩ hn
end GrB
