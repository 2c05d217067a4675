/-! how many MOMENTS there can be -/
/-- K is a MOMENT of those of U -/
def isMo (M : Nat → Nat) (U K : Nat) : Prop := (∀ v, Bs K v → Bs U v) ∧ gCl (Eo M) (Bs K) ∧ ∀ u, Bs U u → ¬ Bs K u → ∃ v, Bs K v ∧ ¬ Eo M v u
theorem gSz_inj {P : Nat → Prop} (f : Nat → Nat) {N' : Nat} : ∀ {N : Nat} {P' : Nat → Prop}, (∀ v, v < N → P v → f v < N' ∧ P' (f v)) → (∀ v w, v < N → w < N → P v → P w → f v = f w → v = w) → gSz P N ≤ gSz P' N'
  | 0, P', _, _ => Nat.zero_le _
  | N + 1, P', h, inj => by
    simp only [gSz]
    by_cases hp : P N
    · have h1 := h N (by omega) hp
      have ih := gSz_inj f (N := N) (P' := fun v => P' v ∧ v ≠ f N) (fun v hv q => ⟨(h v (by omega) q).1, (h v (by omega) q).2, fun e => by have := inj v N (by omega) (by omega) q hp e; omega⟩) (fun v w hv hw => inj v w (by omega) (by omega))
      have h2 := gSz_add (P := fun v => P' v ∧ v ≠ f N) (P' := P') (w := f N) (fun q => q.2 rfl) (fun v => ⟨fun q => by
        by_cases e : v = f N
        · exact Or.inr e
        · exact Or.inl ⟨q, e⟩, fun q => q.elim And.left (fun e => e ▸ h1.2)⟩) h1.1
      simp only [hp, if_true]; omega
    · have ih := gSz_inj f (N := N) (P' := P') (fun v hv => h v (by omega)) (fun v w hv hw => inj v w (by omega) (by omega))
      simp only [hp, if_false]; omega
theorem gSz_or {P P' : Nat → Prop} : ∀ n, gSz (fun v => P v ∨ P' v) n ≤ gSz P n + gSz P' n
  | 0 => Nat.le_refl _
  | n + 1 => by
    have := gSz_or (P := P) (P' := P') n
    simp only [gSz]
    by_cases h1 : P n <;> by_cases h2 : P' n <;> simp [h1, h2] <;> omega
theorem gSz_split {P P' : Nat → Prop} : ∀ n, gSz (fun v => P v ∧ P' v) n + gSz (fun v => P v ∧ ¬ P' v) n = gSz P n
  | 0 => rfl
  | n + 1 => by
    have := gSz_split (P := P) (P' := P') n
    simp only [gSz]
    by_cases h1 : P n <;> by_cases h2 : P' n <;> simp [h1, h2] <;> omega
theorem gSz_cov {A W : Nat → Prop} {N B : Nat} : ∀ n, (∀ K, A K → ∃ u, u < n ∧ W u ∧ Bs K u) → (∀ u, u < n → W u → gSz (fun K => A K ∧ Bs K u) N ≤ B) → gSz A N ≤ gSz W n * B
  | 0, h, _ => by
    have : gSz A N ≤ gSz (fun _ => False) N := gSz_le (fun K q => by obtain ⟨u, hu, _⟩ := h K q; omega)
    have z : ∀ n, gSz (fun _ => False) n = 0 := fun n => by
      induction n with
      | zero => rfl
      | succ n ih => simp [gSz, ih]
    rw [z] at this; omega
  | n + 1, h, hb => by
    have ih := gSz_cov (A := fun K => A K ∧ ∃ u, u < n ∧ W u ∧ Bs K u) (W := W) (N := N) (B := B) n (fun K q => q.2) (fun u hu hW => Nat.le_trans (gSz_le (fun K q => ⟨q.1.1, q.2⟩)) (hb u (by omega) hW))
    simp only [gSz]
    by_cases hw : W n
    · have h1 := hb n (by omega) hw
      have h2 : gSz A N ≤ gSz (fun K => (A K ∧ ∃ u, u < n ∧ W u ∧ Bs K u) ∨ (A K ∧ Bs K n)) N := gSz_le (fun K q => by
        obtain ⟨u, hu, hW, hK⟩ := h K q
        by_cases e : u = n
        · exact Or.inr ⟨q, e ▸ hK⟩
        · exact Or.inl ⟨q, u, by omega, hW, hK⟩)
      have h3 := gSz_or (P := fun K => A K ∧ ∃ u, u < n ∧ W u ∧ Bs K u) (P' := fun K => A K ∧ Bs K n) N
      simp only [hw, if_true, Nat.add_mul, Nat.one_mul]; omega
    · have h2 : gSz A N ≤ gSz (fun K => A K ∧ ∃ u, u < n ∧ W u ∧ Bs K u) N := gSz_le (fun K q => by
        obtain ⟨u, hu, hW, hK⟩ := h K q
        by_cases e : u = n
        · exact absurd (e ▸ hW) hw
        · exact ⟨q, u, by omega, hW, hK⟩)
      simp only [hw, if_false, Nat.add_zero]; omega
def gm (n : Nat) : Nat := [1, 1, 2, 3, 4, 6, 9, 12, 18, 27].getD n 0
theorem gm_ok : ∀ n e : Fin 10, 1 ≤ e.val → e.val ≤ n.val → e.val * gm (n.val - e.val) ≤ gm n.val := by decide +kernel
theorem gm_mono : ∀ n m : Fin 10, n.val ≤ m.val → gm n.val ≤ gm m.val := by decide +kernel
theorem b512 {K v : Nat} (h : K < 512) (hv : Bs K v) : v < 9 := bit_lt (k := 9) h hv
theorem moon {M : Nat → Nat} (hs : ∀ a b, Eo M a b → Eo M b a) (hi : ∀ a, ¬ Eo M a a) : ∀ n U, U < 512 → gSz (Bs U) 9 ≤ n → gSz (isMo M U) 512 ≤ gm (gSz (Bs U) 9) := by
  intro n
  induction n with
  | zero =>
    intro U hU h0
    have hz : gSz (Bs U) 9 = 0 := by omega
    rw [hz]
    have hn : ∀ v, ¬ Bs U v := fun v hv => by
      have := gSz_lt (P := fun _ => False) (P' := Bs U) (n := 9) (fun _ q => q.elim) (b512 hU hv) hv (fun q => q)
      omega
    have h1 := gSz_inj (P := isMo M U) (fun _ => 0) (N := 512) (N' := 1) (P' := fun _ => True) (fun _ _ _ => ⟨by omega, trivial⟩) (fun K K' _ _ hK hK' _ => by
      have e1 : K = 0 := eq0_bit (fun i => by cases h : K.testBit i; rfl; exact absurd (hK.1 i h) (hn i))
      have e2 : K' = 0 := eq0_bit (fun i => by cases h : K'.testBit i; rfl; exact absurd (hK'.1 i h) (hn i))
      rw [e1, e2])
    have h2 : gSz (fun _ => True) 1 = 1 := by simp [gSz]
    have h3 : gm 0 = 1 := rfl
    omega
  | succ n ih =>
    intro U hU hle
    by_cases hn : gSz (Bs U) 9 ≤ n
    · exact ih U hU hn
    · have hn9 := gSz_bd (P := Bs U) (n := 9)
      have hex : ∃ x, Bs U x := Classical.byContradiction fun q => by
        have : gSz (Bs U) 9 = gSz (fun _ => False) 9 := Nat.le_antisymm (gSz_le (fun v hv => q ⟨v, hv⟩)) (gSz_le (fun _ q => q.elim))
        have z : gSz (fun _ => False) 9 = 0 := by simp [gSz]
        omega
      obtain ⟨x0, hx0⟩ := hex
      obtain ⟨v, hv, hmin⟩ := g_min (Bs U) (fun v => gSz (fun u => Bs U u ∧ ¬ Eo M v u) 9) x0 hx0
      have e1 : 1 ≤ gSz (fun u => Bs U u ∧ ¬ Eo M v u) 9 := by
        have := gSz_lt (P := fun _ => False) (P' := fun u => Bs U u ∧ ¬ Eo M v u) (n := 9) (fun _ q => q.elim) (b512 hU hv) ⟨hv, hi v⟩ (fun q => q)
        omega
      have e2 : gSz (fun u => Bs U u ∧ ¬ Eo M v u) 9 ≤ gSz (Bs U) 9 := gSz_le (fun _ q => q.1)
      have key := gSz_cov (A := isMo M U) (W := fun u => Bs U u ∧ ¬ Eo M v u) (N := 512) (B := gm (gSz (Bs U) 9 - gSz (fun u => Bs U u ∧ ¬ Eo M v u) 9)) 9 (fun K hK => by
        by_cases q : Bs K v
        · exact ⟨v, b512 hU hv, ⟨hv, hi v⟩, q⟩
        · obtain ⟨x, hx, hne⟩ := hK.2.2 v hv q
          exact ⟨x, b512 hU (hK.1 x hx), ⟨hK.1 x hx, fun z => hne (hs _ _ z)⟩, hx⟩) (fun u hu hW => by
        have hUu : M u &&& U < 512 := Nat.lt_of_le_of_lt Nat.and_le_right hU
        have bU : ∀ x, Bs (M u &&& U) x ↔ Bs U x ∧ Eo M u x := fun x => by
          show (M u &&& U).testBit x = true ↔ _
          rw [Nat.testBit_and, Bool.and_eq_true]; exact And.comm
        have sp := gSz_split (P := Bs U) (P' := fun x => Eo M u x) 9
        have eq1 : gSz (Bs (M u &&& U)) 9 = gSz (fun x => Bs U x ∧ Eo M u x) 9 := gSz_eq bU
        have mn := hmin u hW.1
        have hlt : gSz (Bs (M u &&& U)) 9 ≤ n := by omega
        have i1 := ih (M u &&& U) hUu hlt
        have bK : ∀ K x, Bs (nAn K (2 ^ u)) x ↔ Bs K x ∧ x ≠ u := fun K x => by
          show (nAn K (2 ^ u)).testBit x = true ↔ _
          rw [nAn_bit, Nat.testBit_two_pow]
          simp only [Bool.and_eq_true, Bool.not_eq_true', decide_eq_false_iff_not, Bs]
          exact ⟨fun q => ⟨q.1, fun z => q.2 z.symm⟩, fun q => ⟨q.1, fun z => q.2 z.symm⟩⟩
        have i2 := gSz_inj (P := fun K => isMo M U K ∧ Bs K u) (fun K => nAn K (2 ^ u)) (N := 512) (N' := 512) (P' := isMo M (M u &&& U)) (fun K hK q => ⟨Nat.lt_of_le_of_lt (nAn_le _ _) hK, fun x hx => (bU x).mpr ⟨q.1.1 x ((bK K x).mp hx).1, q.1.2.1 u x q.2 ((bK K x).mp hx).1 (fun z => ((bK K x).mp hx).2 z.symm)⟩, fun a b ha hb => q.1.2.1 a b ((bK K a).mp ha).1 ((bK K b).mp hb).1, fun y hy hny => by
            have hy2 := (bU y).mp hy
            have hyu : y ≠ u := fun z => hi u (z ▸ hy2.2)
            obtain ⟨x, hx, hne⟩ := q.1.2.2 y hy2.1 (fun z => hny ((bK K y).mpr ⟨z, hyu⟩))
            exact ⟨x, (bK K x).mpr ⟨hx, fun z => hne (z ▸ hy2.2)⟩, hne⟩⟩) (fun K K' _ _ q q' e => by
            apply Nat.eq_of_testBit_eq; intro i
            by_cases hiu : i = u
            · subst hiu; rw [show K.testBit i = true from q.2, show K'.testBit i = true from q'.2]
            · have h1 := bK K i
              have h2 := bK K' i
              have e' : nAn K (2 ^ u) = nAn K' (2 ^ u) := e
              rw [e'] at h1
              have : K.testBit i = true ↔ K'.testBit i = true := ⟨fun z => (h2.mp (h1.mpr ⟨z, hiu⟩)).1, fun z => (h1.mp (h2.mpr ⟨z, hiu⟩)).1⟩
              cases h3 : K.testBit i <;> cases h4 : K'.testBit i <;> simp [h3, h4] at this <;> rfl)
        have i3 := gm_mono ⟨gSz (Bs (M u &&& U)) 9, by omega⟩ ⟨gSz (Bs U) 9 - gSz (fun u => Bs U u ∧ ¬ Eo M v u) 9, by omega⟩ (by show gSz (Bs (M u &&& U)) 9 ≤ gSz (Bs U) 9 - gSz (fun u => Bs U u ∧ ¬ Eo M v u) 9; omega)
        dsimp only at i3
        omega)
      have i4 := gm_ok ⟨gSz (Bs U) 9, by omega⟩ ⟨gSz (fun u => Bs U u ∧ ¬ Eo M v u) 9, by omega⟩ e1 e2
      dsimp only at i4
      omega
/-- without a ring there are no more than guests -/
theorem mo_ch {M : Nat → Nat} (hs : ∀ a b, Eo M a b → Eo M b a) : ∀ n U, U < 512 → gSz (Bs U) 9 ≤ n → gCh (Eo M) (Bs U) → gSz (fun K => isMo M U K ∧ K ≠ 0) 512 ≤ gSz (Bs U) 9 := by
  intro n
  induction n with
  | zero =>
    intro U hU h0 _
    have hn : ∀ v, ¬ Bs U v := fun v hv => by
      have := gSz_lt (P := fun _ => False) (P' := Bs U) (n := 9) (fun _ q => q.elim) (b512 hU hv) hv (fun q => q)
      omega
    have h1 : gSz (fun K => isMo M U K ∧ K ≠ 0) 512 ≤ gSz (fun _ => False) 512 := gSz_le (fun K q => q.2 (eq0_bit (fun i => by cases h : K.testBit i; rfl; exact absurd (q.1.1 i h) (hn i))))
    have z : ∀ n, gSz (fun _ => False) n = 0 := fun n => by
      induction n with
      | zero => rfl
      | succ n ih => simp [gSz, ih]
    rw [z] at h1; omega
  | succ n ih =>
    intro U hU hle hC
    by_cases hex : ∃ x, Bs U x
    · obtain ⟨v, hv, hsv⟩ := hC (Bs U) (fun _ q => q) hex
      have bU : ∀ x, Bs (nAn U (2 ^ v)) x ↔ Bs U x ∧ x ≠ v := fun x => by
        show (nAn U (2 ^ v)).testBit x = true ↔ _
        rw [nAn_bit, Nat.testBit_two_pow]
        simp only [Bool.and_eq_true, Bool.not_eq_true', decide_eq_false_iff_not, Bs]
        exact ⟨fun q => ⟨q.1, fun z => q.2 z.symm⟩, fun q => ⟨q.1, fun z => q.2 z.symm⟩⟩
      have h1 := gSz_add (P := Bs (nAn U (2 ^ v))) (P' := Bs U) (w := v) (fun q => ((bU v).mp q).2 rfl) (fun x => ⟨fun q => by
        by_cases e : x = v
        · exact Or.inr e
        · exact Or.inl ((bU x).mpr ⟨q, e⟩), fun q => q.elim (fun q => ((bU x).mp q).1) (fun e => e ▸ hv)⟩) (b512 hU hv)
      have h2 := ih (nAn U (2 ^ v)) (Nat.lt_of_le_of_lt (nAn_le _ _) hU) (by omega) (hC.sub (fun x q => ((bU x).mp q).1))
      have h3 : gSz (fun K => isMo M U K ∧ K ≠ 0) 512 ≤ gSz (fun K => (isMo M (nAn U (2 ^ v)) K ∧ K ≠ 0) ∨ (isMo M U K ∧ Bs K v)) 512 := gSz_le (fun K q => by
        by_cases e : Bs K v
        · exact Or.inr ⟨q.1, e⟩
        · exact Or.inl ⟨⟨fun x hx => (bU x).mpr ⟨q.1.1 x hx, fun z => e (z ▸ hx)⟩, q.1.2.1, fun u hu hn => q.1.2.2 u ((bU u).mp hu).1 hn⟩, q.2⟩)
      have h4 := gSz_or (P := fun K => isMo M (nAn U (2 ^ v)) K ∧ K ≠ 0) (P' := fun K => isMo M U K ∧ Bs K v) 512
      have h5 := gSz_inj (P := fun K => isMo M U K ∧ Bs K v) (fun _ => 0) (N := 512) (N' := 1) (P' := fun _ => True) (fun _ _ _ => ⟨by omega, trivial⟩) (fun K K' _ _ q q' _ => by
        -- both are v and all whom v has met
        have all : ∀ K, isMo M U K ∧ Bs K v → ∀ x, Bs K x ↔ x = v ∨ (Bs U x ∧ Eo M v x) := fun K q x => ⟨fun hx => by
          by_cases e : x = v
          · exact Or.inl e
          · exact Or.inr ⟨q.1.1 x hx, q.1.2.1 v x q.2 hx (fun z => e z.symm)⟩, fun hx => by
          rcases hx with rfl | ⟨hx, ex⟩
          · exact q.2
          · refine Classical.byContradiction fun hn => ?_
            obtain ⟨y, hy, hne⟩ := q.1.2.2 x hx hn
            by_cases e : y = v
            · exact hne (e ▸ ex)
            · rcases hsv y x (q.1.1 y hy) hx (q.1.2.1 v y q.2 hy (fun z => e z.symm)) ex with z | z
              · exact hn (z ▸ hy)
              · exact hne z⟩
        apply Nat.eq_of_testBit_eq; intro i
        have : K.testBit i = true ↔ K'.testBit i = true := (all K q i).trans (all K' q' i).symm
        cases h3 : K.testBit i <;> cases h4 : K'.testBit i <;> simp [h3, h4] at this <;> rfl)
      have h6 : gSz (fun _ => True) 1 = 1 := by simp [gSz]
      omega
    · have h1 : gSz (fun K => isMo M U K ∧ K ≠ 0) 512 ≤ gSz (fun _ => False) 512 := gSz_le (fun K q => q.2 (eq0_bit (fun i => by cases h : K.testBit i; rfl; exact absurd ⟨i, q.1.1 i h⟩ hex)))
      have z : ∀ n, gSz (fun _ => False) n = 0 := fun n => by
        induction n with
        | zero => rfl
        | succ n ih => simp [gSz, ih]
      rw [z] at h1; omega
