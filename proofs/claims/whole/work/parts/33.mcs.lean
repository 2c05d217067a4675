/-! taking the one next who has met most of those taken: where there is no ring, whom each one has met ahead of it have all met -/
section GrD
variable {E : Nat → Nat → Prop}
theorem g_exit {P : Nat → Prop} {a b : Nat} (h : gRch E P a b) (B : Nat → Prop) (ha : B a) (hb : ¬ B b) : ∃ x y, B x ∧ ¬ B y ∧ P x ∧ P y ∧ E x y :=
  Classical.byContradiction fun k => hb (h B ha (fun x y bx px py e => Classical.byContradiction fun nb => k ⟨x, y, bx, nb, px, py, e⟩))
theorem mcs_key (hs : ∀ a b, E a b → E b a) (hi : ∀ a, ¬ E a a) {N : Nat} {V : Nat → Prop} (hN : ∀ v, V v → v < N) (hC : gCh E V) {o : Nat → Nat} {m : Nat} (hV : ∀ i, i < m → V (o i)) (inj : ∀ i j, i < m → j < m → o i = o j → i = j)
    (hmax : ∀ i j, i < j → j < m → gSz (fun v => E (o j) v ∧ ∃ l, l < i ∧ v = o l) N ≤ gSz (fun v => E (o i) v ∧ ∃ l, l < i ∧ v = o l) N) :
    ∀ n j, j < n → j < m → ∀ i, i < j → ∀ A : Nat → Prop, (∀ a, A a → ∃ l, j < l ∧ l < m ∧ a = o l) → gCon E A → ¬ E (o i) (o j) → (∃ a, A a ∧ E (o i) a) → (∃ a, A a ∧ E (o j) a) → False := by
  intro n
  induction n with
  | zero => intro j h; omega
  | succ n ih =>
    intro j hjn hjm i hij A hA hAc hE ⟨a0, ha0, eu0⟩ ⟨a1, ha1, ev1⟩
    let P : Nat → Prop := fun z => A z ∨ z = o j
    let B1 : Nat → Prop := fun z => gRch E (fun x => P x ∧ ¬ E (o i) x) (o j) z
    have hPv : P (o j) := Or.inr rfl
    have hvB : P (o j) ∧ ¬ E (o i) (o j) := ⟨hPv, hE⟩
    have hB1 : ∀ z, B1 z → P z ∧ ¬ E (o i) z := fun z h => gRch.mem (P := fun x => P x ∧ ¬ E (o i) x) hvB h
    have hva0 : gRch E P (o j) a0 := (gRch.one hPv (Or.inl ha1) ev1).trans ((hAc a1 a0 ha1 ha0).mono (fun z q => Or.inl q))
    obtain ⟨x0, w, hx0, hw, hPx0, hPw, ex0⟩ := g_exit hva0 B1 gRch.refl (fun q => (hB1 _ q).2 eu0)
    have euw : E (o i) w := Classical.byContradiction fun k => hw (gRch.step hx0 (hB1 _ hx0) ⟨hPw, k⟩ ex0)
    have hAw : A w := hPw.resolve_right (fun q => hE (q ▸ euw))
    obtain ⟨l, hl, hlm, rfl⟩ := hA w hAw
    have hx : ∃ k, k < j ∧ E (o j) (o k) ∧ ¬ E (o l) (o k) := by
      refine Classical.byContradiction fun h => ?_
      have h1 := hmax j l hl hlm
      have h2 : gSz (fun v => E (o j) v ∧ ∃ l, l < j ∧ v = o l) N < gSz (fun v => E (o l) v ∧ ∃ l, l < j ∧ v = o l) N :=
        gSz_lt (fun v ⟨q1, k, q2, q3⟩ => ⟨Classical.byContradiction fun q => h ⟨k, q2, q3 ▸ q1, q3 ▸ q⟩, k, q2, q3⟩) (hN _ (hV i (by omega))) ⟨hs _ _ euw, i, hij, rfl⟩ (fun q => hE (hs _ _ q.1))
      omega
    obtain ⟨k, hkj, evk, ewk⟩ := hx
    let P2 : Nat → Prop := fun z => B1 z ∨ z = o l
    have pos : ∀ z, P2 z → ∃ t, j ≤ t ∧ t < m ∧ z = o t := by
      rintro z (h | h)
      · rcases (hB1 z h).1 with q | q
        · obtain ⟨t, h1, h2, h3⟩ := hA z q
          exact ⟨t, by omega, h2, h3⟩
        · exact ⟨j, Nat.le_refl _, hjm, q⟩
      · exact ⟨l, by omega, hlm, h⟩
    have ne : ∀ z t, P2 z → t < j → z ≠ o t := by
      intro z t hz ht q
      obtain ⟨s, h1, h2, h3⟩ := pos z hz
      have := inj s t h2 (by omega) (by rw [← h3, q])
      omega
    have cB1 : gCon E B1 := gCon_comp hs hvB
    have toW : ∀ z, B1 z → gRch E P2 z (o l) := fun z hz => ((cB1 z x0 hz hx0).mono (fun y q => Or.inl q)).step (Or.inl hx0) (Or.inr rfl) ex0
    have cP2 : gCon E P2 := by
      rintro y z (hy | hy) (hz | hz)
      · exact (toW y hy).trans ((toW z hz).symm hs)
      · subst hz; exact toW y hy
      · subst hy; exact (toW z hz).symm hs
      · subst hy; subst hz; exact gRch.refl
    have hik : i ≠ k := fun q => hE (hs _ _ (q ▸ evk))
    by_cases exu : E (o i) (o k)
    · let B2 : Nat → Prop := fun z => gRch E (fun y => P2 y ∧ ¬ E (o k) y) (o l) z
      have hwB : P2 (o l) ∧ ¬ E (o k) (o l) := ⟨Or.inr rfl, fun q => ewk (hs _ _ q)⟩
      have hB2 : ∀ z, B2 z → P2 z ∧ ¬ E (o k) z := fun z h => gRch.mem (P := fun y => P2 y ∧ ¬ E (o k) y) hwB h
      obtain ⟨y0, y, hy0, hy, hPy0, hPy, ey⟩ := g_exit (cP2 (o l) (o j) (Or.inr rfl) (Or.inl gRch.refl)) B2 gRch.refl (fun q => (hB2 _ q).2 (hs _ _ evk))
      have exy : E (o k) y := Classical.byContradiction fun q => hy (gRch.step hy0 (hB2 _ hy0) ⟨hPy, q⟩ ey)
      have hyB : B1 y := hPy.resolve_right (fun q => (q ▸ hwB.2) exy)
      refine gL4 hs (N := N) (gSz (fun v => B2 v ∨ v = o k) N) B2 (fun v => v = o k) (o i) y (Nat.le_refl _) ?_ (gCon_comp hs hwB) ?_ ?_ (hB1 y hyB).2 (fun q => ne y i hPy hij q.symm) ?_ ⟨o l, gRch.refl, euw⟩ ⟨y0, hy0, hs _ _ ey⟩ ⟨o k, rfl, exu⟩ ⟨o k, rfl, hs _ _ exy⟩ (hC.sub ?_)
      · rintro v (hv | rfl)
        · obtain ⟨s, h1, h2, h3⟩ := pos v (hB2 v hv).1
          rw [h3]; exact hN _ (hV s h2)
        · exact hN _ (hV k (by omega))
      · rintro a b rfl rfl; exact gRch.refl
      · rintro a b ha rfl
        exact ⟨fun q => (hB2 a ha).2 (hs _ _ q), ne a k (hB2 a ha).1 hkj⟩
      · rintro v (hv | rfl)
        · exact ⟨ne v i (hB2 v hv).1 hij, fun q => hy (q ▸ hv)⟩
        · exact ⟨fun q => hik (inj i k (by omega) (by omega) q.symm), fun q => ne y k hPy hkj q.symm⟩
      · rintro v (rfl | rfl | hv | rfl)
        · exact hV i (by omega)
        · obtain ⟨s, h1, h2, h3⟩ := pos v hPy
          rw [h3]; exact hV s h2
        · obtain ⟨s, h1, h2, h3⟩ := pos v (hB2 v hv).1
          rw [h3]; exact hV s h2
        · exact hV k (by omega)
    · have later : ∀ t, t < j → ∀ a, P2 a → ∃ l, t < l ∧ l < m ∧ a = o l := fun t ht a ha => by
        obtain ⟨s, h1, h2, h3⟩ := pos a ha
        exact ⟨s, by omega, h2, h3⟩
      rcases Nat.lt_trichotomy i k with h | h | h
      · exact ih k (by omega) (by omega) i h P2 (later k hkj) cP2 exu ⟨o l, Or.inr rfl, euw⟩ ⟨o j, Or.inl gRch.refl, hs _ _ evk⟩
      · exact hik h
      · exact ih i (by omega) (by omega) k h P2 (later i hij) cP2 (fun q => exu (hs _ _ q)) ⟨o j, Or.inl gRch.refl, hs _ _ evk⟩ ⟨o l, Or.inr rfl, euw⟩
theorem mcs_clique (hs : ∀ a b, E a b → E b a) (hi : ∀ a, ¬ E a a) {N : Nat} {V : Nat → Prop} (hN : ∀ v, V v → v < N) (hC : gCh E V) {o : Nat → Nat} {m : Nat} (hV : ∀ i, i < m → V (o i)) (inj : ∀ i j, i < m → j < m → o i = o j → i = j)
    (hmax : ∀ i j, i < j → j < m → gSz (fun v => E (o j) v ∧ ∃ l, l < i ∧ v = o l) N ≤ gSz (fun v => E (o i) v ∧ ∃ l, l < i ∧ v = o l) N) {i j k : Nat} (hij : i < j) (hjk : j < k) (hk : k < m) (h1 : E (o k) (o i)) (h2 : E (o k) (o j)) : E (o i) (o j) :=
  Classical.byContradiction fun q => mcs_key hs hi hN hC hV inj hmax (j + 1) j (by omega) (by omega) i hij (fun a => a = o k) (fun a ha => ⟨k, hjk, hk, ha⟩) (by rintro a b rfl rfl; exact gRch.refl) q ⟨o k, rfl, hs _ _ h1⟩ ⟨o k, rfl, hs _ _ h2⟩
/-- an order in which whom each has met ahead of it have all met: no ring -/
theorem peo_ch (hs : ∀ a b, E a b → E b a) {V : Nat → Prop} {o : Nat → Nat} {m : Nat} (hV : ∀ v, V v → ∃ i, i < m ∧ v = o i) (h : ∀ i j k, i < j → j < k → k < m → E (o k) (o i) → E (o k) (o j) → E (o i) (o j)) : gCh E V := by
  intro T hT ⟨x0, hx0⟩
  obtain ⟨i0, hi0, e0⟩ := hV x0 (hT x0 hx0)
  obtain ⟨k, ⟨hk, hTk⟩, hmax⟩ := g_max (fun i => i < m ∧ T (o i)) (fun i => if i < m then i else 0) m (fun i => by split <;> omega) i0 ⟨hi0, e0 ▸ hx0⟩
  refine ⟨o k, hTk, fun y z hy hz ey ez => ?_⟩
  obtain ⟨i, hi, rfl⟩ := hV y (hT y hy)
  obtain ⟨j, hj, rfl⟩ := hV z (hT z hz)
  have h1 := hmax i ⟨hi, hy⟩
  have h2 := hmax j ⟨hj, hz⟩
  simp only [hi, hj, hk, if_true] at h1 h2
  have le1 : ∀ i, i < m → o i = o k → i ≤ k → True := fun _ _ _ _ => trivial
  rcases Nat.lt_trichotomy i j with q | q | q
  · rcases Nat.lt_or_ge j k with r | r
    · exact Or.inr (h i j k q r hk ey ez)
    · have : j = k := by omega
      subst this
      rcases Nat.lt_or_ge i j with s | s
      · exact Or.inr (hs _ _ ey)
      · omega
  · subst q; exact Or.inl rfl
  · rcases Nat.lt_or_ge i k with r | r
    · exact Or.inr (hs _ _ (h j i k q r hk ez ey))
    · have : i = k := by omega
      subst this
      exact Or.inr ez
end GrD
