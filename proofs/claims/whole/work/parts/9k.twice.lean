/-! TWICE: graphs of one who came twice -/
def CL (E : Nat → Nat → Prop) (V : Nat → Prop) : Prop := gCh E V ∧ gAT E V
theorem CL.sub {E : Nat → Nat → Prop} {V W : Nat → Prop} (h : CL E V) (hs : ∀ v, W v → V v) : CL E W := ⟨h.1.sub hs, h.2.sub hs⟩
theorem rch_imp {E E' : Nat → Nat → Prop} {P P' : Nat → Prop} {a b : Nat} (hp : ∀ v, P v → P' v) (he : ∀ x y, P x → P y → E x y → E' x y) (h : gRch E P a b) : gRch E' P' a b := fun T h0 hs => h T h0 (fun x y tx px py e => hs x y tx (hp x px) (hp y py) (he x y px py e))
theorem CL.cong {E E' : Nat → Nat → Prop} {V : Nat → Prop} (he : ∀ a b, V a → V b → (E a b ↔ E' a b)) (h : CL E V) : CL E' V := by
  refine ⟨fun T hT hx => ?_, fun a b c ha hb hc nab nac nbc eab eac ebc r1 r2 r3 => ?_⟩
  · obtain ⟨x, tx, sx⟩ := h.1 T hT hx
    refine ⟨x, tx, fun y z ty tz e1 e2 => ?_⟩
    rcases sx y z ty tz ((he x y (hT x tx) (hT y ty)).mpr e1) ((he x z (hT x tx) (hT z tz)).mpr e2) with q | q
    · exact Or.inl q
    · exact Or.inr ((he y z (hT y ty) (hT z tz)).mp q)
  · have av : ∀ c, V c → ∀ v, gAv E' V c v → gAv E V c v := fun c hc v hv => ⟨hv.1, hv.2.1, fun e => hv.2.2 ((he c v hc hv.1).mp e)⟩
    have rr : ∀ c a b, V c → gRch E' (gAv E' V c) a b → gRch E (gAv E V c) a b := fun c a b hc r => rch_imp (av c hc) (fun x y px py e => (he x y px.1 py.1).mpr e) r
    exact h.2 a b c ha hb hc nab nac nbc (fun e => eab ((he a b ha hb).mp e)) (fun e => eac ((he a c ha hc).mp e)) (fun e => ebc ((he b c hb hc).mp e)) (rr c a b hc r1) (rr a b c ha r2) (rr b a c hb r3)
theorem CL.map {E : Nat → Nat → Prop} {V : Nat → Prop} (f : Nat → Nat) (hf : ∀ a, f (f a) = a) (h : CL E V) : CL (fun a b => E (f a) (f b)) (fun a => V (f a)) := by
  have inj : ∀ a b, f a = f b → a = b := fun a b e => by rw [← hf a, e, hf]
  refine ⟨fun T hT ⟨x, tx⟩ => ?_, fun a b c ha hb hc nab nac nbc eab eac ebc r1 r2 r3 => ?_⟩
  · obtain ⟨x', tx', sx⟩ := h.1 (fun y => T (f y)) (fun y ty => by have : V (f (f y)) := hT (f y) ty; rw [hf] at this; exact this) ⟨f x, by show T (f (f x)); rw [hf]; exact tx⟩
    refine ⟨f x', tx', fun y z ty tz e1 e2 => ?_⟩
    have e1 : E x' (f y) := by have : E (f (f x')) (f y) := e1; rw [hf] at this; exact this
    have e2 : E x' (f z) := by have : E (f (f x')) (f z) := e2; rw [hf] at this; exact this
    rcases sx (f y) (f z) (by show T (f (f y)); rw [hf]; exact ty) (by show T (f (f z)); rw [hf]; exact tz) e1 e2 with q | q
    · exact Or.inl (inj y z q)
    · exact Or.inr q
  · have rr : ∀ c a b, gRch (fun a b => E (f a) (f b)) (gAv (fun a b => E (f a) (f b)) (fun a => V (f a)) c) a b → gRch E (gAv E V (f c)) (f a) (f b) := fun c a b r T h0 hs => r (fun y => T (f y)) h0 (fun x y tx px py e => hs (f x) (f y) tx ⟨px.1, fun q => px.2.1 (inj x c q), px.2.2⟩ ⟨py.1, fun q => py.2.1 (inj y c q), py.2.2⟩ e)
    exact h.2 (f a) (f b) (f c) ha hb hc (fun q => nab (inj a b q)) (fun q => nac (inj a c q)) (fun q => nbc (inj b c q)) eab eac ebc (rr c a b r1) (rr a b c r2) (rr b a c r3)
/-- one who has met nobody may be there too -/
theorem CL.iso {E : Nat → Nat → Prop} {V : Nat → Prop} {w : Nat} (h : CL E V) (hw : ¬ E w w) (hi : ∀ v, V v → ¬ E w v ∧ ¬ E v w) : CL E (fun v => V v ∨ v = w) := by
  refine ⟨fun T hT ⟨x, tx⟩ => ?_, fun a b c ha hb hc nab nac nbc eab eac ebc r1 r2 r3 => ?_⟩
  · by_cases q : T w
    · refine ⟨w, q, fun y z ty tz e1 e2 => ?_⟩
      rcases hT y ty with y1 | y1
      · exact absurd e1 (hi y y1).1
      · subst y1; exact absurd e1 hw
    · exact h.1 T (fun y ty => (hT y ty).elim id (fun e => by subst e; exact absurd ty q)) ⟨x, tx⟩
  · have nE : ∀ v, (V v ∨ v = w) → ¬ E w v := fun v hv => hv.elim (fun q => (hi v q).1) (fun q => by subst q; exact hw)
    have nE2 : ∀ v, (V v ∨ v = w) → ¬ E v w := fun v hv => hv.elim (fun q => (hi v q).2) (fun q => by subst q; exact hw)
    have stuck : ∀ c b, w ≠ b → ¬ gRch E (gAv E (fun v => V v ∨ v = w) c) w b := fun c b hne r => hne (r (fun x => w = x) rfl (fun x y tx px py e => by subst tx; exact absurd e (nE y py.1)))
    have stuck2 : ∀ c b, w ≠ b → ¬ gRch E (gAv E (fun v => V v ∨ v = w) c) b w := fun c b hne r => (r (fun x => x ≠ w) (fun e => hne e.symm) (fun x y tx px py e q => by subst q; exact nE2 x px.1 e)) rfl
    have na : a ≠ w := fun e => by subst e; exact stuck c b nab r1
    have nb : b ≠ w := fun e => by subst e; exact stuck2 c a nab.symm r1
    have nc : c ≠ w := fun e => by subst e; exact stuck2 a b nbc.symm r2
    have av : ∀ c a b, a ≠ w → gRch E (gAv E (fun v => V v ∨ v = w) c) a b → gRch E (gAv E V c) a b := fun c a b _ r => r (fun x => gRch E (gAv E V c) a x) gRch.refl (fun x y tx px py e => by
      have px1 : V x := px.1.elim id (fun q => by subst q; exact absurd e (nE y py.1))
      have py1 : V y := py.1.elim id (fun q => by subst q; exact absurd e (nE2 x px.1))
      exact tx.step (b := x) ⟨px1, px.2⟩ ⟨py1, py.2⟩ e)
    exact h.2 a b c (ha.elim id (fun e => absurd e na)) (hb.elim id (fun e => absurd e nb)) (hc.elim id (fun e => absurd e nc)) nab nac nbc eab eac ebc (av c a b na r1) (av a b c nb r2) (av b a c na r3)
/-- two in place of one: 0 is given to the first coming, 1 to the second, 2 to both -/
def tE (E : Nat → Nat → Prop) (g z : Nat) (D : Nat → Nat) (a b : Nat) : Prop :=
  (a ≠ g ∧ a ≠ z ∧ b ≠ g ∧ b ≠ z ∧ E a b) ∨ (a = g ∧ b ≠ g ∧ b ≠ z ∧ E g b ∧ D b ≠ 1) ∨ (b = g ∧ a ≠ g ∧ a ≠ z ∧ E g a ∧ D a ≠ 1) ∨ (a = z ∧ b ≠ g ∧ b ≠ z ∧ E g b ∧ D b ≠ 0) ∨ (b = z ∧ a ≠ g ∧ a ≠ z ∧ E g a ∧ D a ≠ 0)
def twV (n z v : Nat) : Prop := v < n ∨ v = z
/-- what was given to those of A stays; can all the rest be given -/
def twR (E : Nat → Nat → Prop) (g z n : Nat) (A : Nat → Prop) (D : Nat → Nat) : Prop := ∃ D', (∀ a, D' a ≤ 2) ∧ (∀ a, A a → D' a = D a) ∧ CL (tE E g z D') (twV n z)
section Tw
variable {E : Nat → Nat → Prop} {g z n : Nat} {A : Nat → Prop} {D D' : Nat → Nat}
theorem tE_D (h : ∀ a, E g a → D a = D' a) {a b : Nat} : tE E g z D a b ↔ tE E g z D' a b := by
  unfold tE
  constructor
  · rintro (q | ⟨q1, q2, q3, q4, q5⟩ | ⟨q1, q2, q3, q4, q5⟩ | ⟨q1, q2, q3, q4, q5⟩ | ⟨q1, q2, q3, q4, q5⟩)
    · exact Or.inl q
    · exact Or.inr (Or.inl ⟨q1, q2, q3, q4, by rw [← h _ q4]; exact q5⟩)
    · exact Or.inr (Or.inr (Or.inl ⟨q1, q2, q3, q4, by rw [← h _ q4]; exact q5⟩))
    · exact Or.inr (Or.inr (Or.inr (Or.inl ⟨q1, q2, q3, q4, by rw [← h _ q4]; exact q5⟩)))
    · exact Or.inr (Or.inr (Or.inr (Or.inr ⟨q1, q2, q3, q4, by rw [← h _ q4]; exact q5⟩)))
  · rintro (q | ⟨q1, q2, q3, q4, q5⟩ | ⟨q1, q2, q3, q4, q5⟩ | ⟨q1, q2, q3, q4, q5⟩ | ⟨q1, q2, q3, q4, q5⟩)
    · exact Or.inl q
    · exact Or.inr (Or.inl ⟨q1, q2, q3, q4, by rw [h _ q4]; exact q5⟩)
    · exact Or.inr (Or.inr (Or.inl ⟨q1, q2, q3, q4, by rw [h _ q4]; exact q5⟩))
    · exact Or.inr (Or.inr (Or.inr (Or.inl ⟨q1, q2, q3, q4, by rw [h _ q4]; exact q5⟩)))
    · exact Or.inr (Or.inr (Or.inr (Or.inr ⟨q1, q2, q3, q4, by rw [h _ q4]; exact q5⟩)))
/-- what is given counts among those of A alone -/
theorem tE_A (h : ∀ a, A a → D a = D' a) {a b : Nat} (ha : A a) (hb : A b) : tE E g z D a b ↔ tE E g z D' a b := by
  unfold tE
  rw [h a ha, h b hb]
theorem twR_free (h : ∀ a, A a → ¬ E g a) (hD : ∀ a, D a ≤ 2) : twR E g z n A D ↔ ∃ D', (∀ a, D' a ≤ 2) ∧ CL (tE E g z D') (twV n z) := by
  constructor
  · rintro ⟨D', h1, -, h3⟩; exact ⟨D', h1, h3⟩
  · rintro ⟨D', h1, h3⟩
    have e1 : ∀ a, A a → @ite Nat (A a) (Classical.propDecidable _) (D a) (D' a) = D a := fun a q => if_pos q
    have e2 : ∀ a, ¬ A a → @ite Nat (A a) (Classical.propDecidable _) (D a) (D' a) = D' a := fun a q => if_neg q
    refine ⟨fun a => @ite Nat (A a) (Classical.propDecidable _) (D a) (D' a), fun a => ?_, e1, h3.cong (fun a b _ _ => tE_D (fun x hx => (e2 x (fun q => h x q hx)).symm))⟩
    by_cases q : A a
    · exact Nat.le_trans (Nat.le_of_eq (e1 a q)) (hD a)
    · exact Nat.le_trans (Nat.le_of_eq (e2 a q)) (h1 a)
def upD (D : Nat → Nat) (x d v : Nat) : Nat := if v = x then d else D v
theorem twR_step {x : Nat} (hx : ¬ A x) : twR E g z n A D ↔ ∃ d, d ≤ 2 ∧ twR E g z n (fun v => A v ∨ v = x) (upD D x d) := by
  constructor
  · rintro ⟨D', h1, h2, h3⟩
    refine ⟨D' x, h1 x, D', h1, fun a ha => ?_, h3⟩
    show D' a = if a = x then D' x else D a
    by_cases e : a = x
    · rw [if_pos e, e]
    · rw [if_neg e]; exact h2 a (ha.elim id (fun q => absurd q e))
  · rintro ⟨d, hd, D', h1, h2, h3⟩
    refine ⟨D', h1, fun a ha => ?_, h3⟩
    have h4 : D' a = if a = x then d else D a := h2 a (Or.inl ha)
    rw [if_neg (fun e => by subst e; exact hx ha)] at h4
    exact h4
theorem twR_can (h : twR E g z n A D) (hA : ∀ v, A v → twV n z v) : CL (tE E g z D) A := by
  obtain ⟨D', h1, h2, h3⟩ := h
  exact (h3.sub hA).cong (fun a b ha hb => tE_A h2 ha hb)
theorem twR_done (h : CL (tE E g z D) (twV n z)) (hD : ∀ a, D a ≤ 2) : twR E g z n A D := ⟨D, hD, fun _ _ => rfl, h⟩
/-- two change places -/
def swF (g z a : Nat) : Nat := if a = g then z else if a = z then g else a
theorem swF_inv (a : Nat) : swF g z (swF g z a) = a := by
  unfold swF
  split <;> split <;> (try split) <;> omega
/-- the comings are alike -/
theorem tw_swap (hg : g < n) (hz : n ≤ z) (h : CL (tE E g z D) (twV n z)) : CL (tE E g z (fun a => if D a = 0 then 1 else if D a = 1 then 0 else D a)) (twV n z) := by
  have hm := h.map (swF g z) swF_inv
  have hV : (fun a => twV n z (swF g z a)) = twV n z := by
    funext a
    apply propext
    show ((if a = g then z else if a = z then g else a) < n ∨ (if a = g then z else if a = z then g else a) = z) ↔ (a < n ∨ a = z)
    split <;> (try split) <;> omega
  rw [hV] at hm
  refine hm.cong (fun a b ha hb => ?_)
  have hgz : g ≠ z := by omega
  have hzg : ¬ z = g := by omega
  have hd : ∀ b, (¬ (if D b = 0 then 1 else if D b = 1 then 0 else D b) = 1 ↔ ¬ D b = 0) ∧ (¬ (if D b = 0 then 1 else if D b = 1 then 0 else D b) = 0 ↔ ¬ D b = 1) := fun b => by
    by_cases h0 : D b = 0
    · simp [h0]
    · by_cases h1 : D b = 1
      · simp [h1]
      · simp [h0, h1]
  unfold tE
  simp only [ne_eq]
  rw [(hd a).1, (hd a).2, (hd b).1, (hd b).2]
  by_cases a1 : a = g <;> by_cases a2 : a = z <;> by_cases b1 : b = g <;> by_cases b2 : b = z <;> simp_all [swF]
theorem tw_z {z' : Nat} (hz : n ≤ z) (hz' : n ≤ z') (hg : g < n) (h : CL (tE E g z D) (twV n z)) : CL (tE E g z' D) (twV n z') := by
  have hm := h.map (swF z z') swF_inv
  have hV : (fun a => twV n z (swF z z' a)) = twV n z' := by
    funext a
    apply propext
    show ((if a = z then z' else if a = z' then z else a) < n ∨ (if a = z then z' else if a = z' then z else a) = z) ↔ (a < n ∨ a = z')
    split <;> (try split) <;> omega
  rw [hV] at hm
  refine hm.cong (fun a b ha hb => ?_)
  have fg : ∀ a, twV n z' a → (((if a = z then z' else if a = z' then z else a) = g ↔ a = g) ∧ ((if a = z then z' else if a = z' then z else a) = z ↔ a = z') ∧ (a ≠ z' → (if a = z then z' else if a = z' then z else a) = a)) := fun a ha => by
    have ha : a < n ∨ a = z' := ha
    refine ⟨?_, ?_, ?_⟩
    · split <;> (try split) <;> omega
    · split <;> (try split) <;> omega
    · intro h1; split <;> (try split) <;> omega
  obtain ⟨fa1, fa2, fa3⟩ := fg a ha
  obtain ⟨fb1, fb2, fb3⟩ := fg b hb
  revert fa1 fa2 fa3 fb1 fb2 fb3
  unfold tE swF
  simp only [ne_eq]
  generalize (if a = z then z' else if a = z' then z else a) = p
  generalize (if b = z then z' else if b = z' then z else b) = q
  intro fa1 fa2 fa3 fb1 fb2 fb3
  rw [fa1, fa2, fb1, fb2]
  by_cases a2 : a = z'
  · by_cases b2 : b = z'
    · simp_all
    · have := fb3 b2; subst this; simp_all
  · have := fa3 a2
    subst this
    by_cases b2 : b = z'
    · simp_all
    · have := fb3 b2; subst this; rfl
end Tw
