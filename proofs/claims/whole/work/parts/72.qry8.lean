/-! questions, by the class -/
noncomputable def cif {α : Type} (P : Prop) (a b : α) : α := @ite α P (Classical.propDecidable P) a b
theorem cif_y {α : Type} {P : Prop} {a b : α} (h : P) : cif P a b = a := if_pos h
theorem cif_n {α : Type} {P : Prop} {a b : α} (h : ¬ P) : cif P a b = b := if_neg h
/-- working cells alone have changed -/
def Scr (b : Bool) (X X' : HX) (Y Y' : HY) : Prop := (∀ c, c < nC8 b → c ∉ [29, 30, 31, 32, 33, 35, 37, 39, 44, 57, 58, 59, 60, 62, 63, 64, 78] → X' c = X c) ∧ X' 33 2 = X 33 2 ∧ X' 37 2 = X 37 2 ∧ ∀ c, c < nC8 b → c ∉ [36, 38, 40] → Y' c = Y c
theorem Eq8.scr {b : Bool} {X X' : HX} {Y Y' : HY} (h : Eq8 b X X' Y Y') : Scr b X X' Y Y' := by
  have := nC8_79 b
  exact ⟨fun c hc _ => (h c hc).1, by rw [(h 33 (by omega)).1], by rw [(h 37 (by omega)).1], fun c hc _ => (h c hc).2⟩
theorem Scr.trans {b : Bool} {X X1 X2 : HX} {Y Y1 Y2 : HY} (h : Scr b X X1 Y Y1) (k : Scr b X1 X2 Y1 Y2) : Scr b X X2 Y Y2 := ⟨fun c hc hd => (k.1 c hc hd).trans (h.1 c hc hd), k.2.1.trans h.2.1, k.2.2.1.trans h.2.2.1, fun c hc hd => (k.2.2.2 c hc hd).trans (h.2.2.2 c hc hd)⟩
theorem Scr.kp {b : Bool} {X X' : HX} {Y Y' : HY} (h : Scr b X X' Y Y') : Kp b X X' Y Y' := fun c hc hd => ⟨h.1 c hc (by simp; omega), h.2.2.2 c hc (by simp; omega)⟩
theorem Scr.x {b : Bool} {X X' : HX} {Y Y' : HY} (h : Scr b X X' Y Y') {c : Nat} (hc : c < 79) (hd : c ∉ [29, 30, 31, 32, 33, 35, 37, 39, 44, 57, 58, 59, 60, 62, 63, 64, 78]) : X' c = X c := h.1 c (by have := nC8_79 b; omega) hd
theorem Scr.y {b : Bool} {X X' : HX} {Y Y' : HY} (h : Scr b X X' Y Y') {c : Nat} (hc : c < 79) (hd : c ∉ [36, 38, 40]) : Y' c = Y c := h.2.2.2 c (by have := nC8_79 b; omega) hd
theorem Scr.pk {b : Bool} {X X' : HX} {Y Y' : HY} {s : St} (h : Scr b X X' Y Y') (p : PKo X Y s) : PKo X' Y' s := p.of (by rw [h.x (by omega) (by decide)]) (h.x (by omega) (by decide)) (h.x (by omega) (by decide)) (h.x (by omega) (by decide)) (h.y (by omega) (by decide))
theorem Scr.lk {b : Bool} {X X' : HX} {Y Y' : HY} {s : St} (h : Scr b X X' Y Y') (p : LKo X s) : LKo X' s := by
  refine ⟨CV_c p.1 ?_ (h.x (by decide) (by decide)) (h.x (by decide) (by decide)) (h.x (by decide) (by decide)) (h.x (by decide) (by decide)), fun q => ?_⟩
  · show X' 41 3 = X 41 3; rw [h.x (by omega) (by decide)]
  · obtain ⟨le, q1, q2⟩ := p.2 q
    refine ⟨le, q1, fun i hi => ?_⟩
    show X' 43 i = _; rw [h.x (by omega) (by decide)]; exact q2 i hi
theorem Scr.ok {b : Bool} {X X' : HX} {Y Y' : HY} {s : St} (h : Scr b X X' Y Y') (p : OKo X s) : OKo X' s := by
  refine CV_c p ?_ (h.x (by decide) (by decide)) (h.x (by decide) (by decide)) (h.x (by decide) (by decide)) (h.x (by decide) (by decide))
  show X' 49 3 = X 49 3; rw [h.x (by omega) (by decide)]
theorem Scr.fl {b : Bool} {X X' : HX} {Y Y' : HY} {c i : Nat} (h : Scr b X X' Y Y') (hc : c < 79) (hd : c ∉ [29, 30, 31, 32, 33, 35, 37, 39, 44, 57, 58, 59, 60, 62, 63, 64, 78]) : X' c i = X c i := by rw [h.x hc hd]
noncomputable def aCan (s : St) : Rs := rI (iB (layQ s))
noncomputable def aMoments (s : St) : Rs := rI (nI (sm s))
noncomputable def aMoment (s : St) (p : Int32) : Rs := cif (¬ p < 0 ∧ p.toNatClampNeg < sm s) (rI (nI (so s p.toNatClampNeg))) (.inr XN)
noncomputable def aLay (s : St) (p : Int32) : Rs := cif (layQ s) (rI (cif (¬ p < 0 ∧ p.toNatClampNeg < sm s) (nI (leQ s p.toNatClampNeg)) (-1))) (.inr XS)
noncomputable def aStays (s : St) (p l : Int32) : Rs := cif (isG s p) (cif (layQ s) (rI (cif (l = 0) (nI (fpQ s p.toNatClampNeg)) (nI (lpQ s p.toNatClampNeg)))) (.inr XS)) (.inr XI)
noncomputable def aCount (s : St) : Rs := rL (lN (cif (layQ s) (wy (sm s) (mayQ s) 0) 0))
def aOpens (s : St) : Rs := rI (nI (ops s (sFo s)).length)
noncomputable def aPair (s : St) (p q : Int32) : Rs := cif (isG s p ∧ isG s q) (rI (cif (p = q) (-1) (nI (kd s (sFo s) p.toNatClampNeg q.toNatClampNeg)))) (.inr XI)
noncomputable def aKnot (s : St) : Rs := rI (cif (layQ s) (nI 0) (cif (gCh (Eo (Ms s)) (Bs (2 ^ sG s - 1))) (nI 2) (nI 1)))
noncomputable def aRoom (s : St) (p : Int32) : Rs := cif (isG s p) (cif (layQ s) (rI (nI (rmQ s p.toNatClampNeg))) (.inr XS)) (.inr XI)
/-- how many rooms: one more than the greatest -/
noncomputable def rmsQ (s : St) : Nat := Classical.epsilon (fun n => (∀ g, g < sG s → rmQ s g < n) ∧ (n = 0 ∨ ∃ g, g < sG s ∧ rmQ s g + 1 = n))
noncomputable def aRooms (s : St) : Rs := cif (layQ s) (rI (nI (rmsQ s))) (.inr XS)
theorem rms_eq {s : St} {n : Nat} (h1 : ∀ g, g < sG s → rmQ s g < n) (h2 : n = 0 ∨ ∃ g, g < sG s ∧ rmQ s g + 1 = n) : rmsQ s = n :=
  eps_uq (P := fun n => (∀ g, g < sG s → rmQ s g < n) ∧ (n = 0 ∨ ∃ g, g < sG s ∧ rmQ s g + 1 = n)) ⟨h1, h2⟩ (fun m hm => by
    obtain ⟨a, b⟩ := hm
    rcases b with b | ⟨g, hg, b⟩
    · rcases h2 with c | ⟨g', hg', c⟩
      · omega
      · have := a g' hg'; omega
    · have := h1 g hg
      rcases h2 with c | ⟨g', hg', c⟩
      · omega
      · have := a g' hg'; omega)
noncomputable def thQ (s : St) : Int := Classical.epsilon (th3R (Ms s) (2 ^ sG s - 1))
theorem th3R_uq {M : Nat → Nat} {S : Nat} {y z : Int} (hy : th3R M S y) (hz : th3R M S z) : y = z := by
  have mem : ∀ a b c, th3 M S a b c → Bs S a ∧ Bs S b := fun a b c h => ⟨(h.2.1.1).1, (h.1.1).1⟩
  rcases hy with ⟨rfl, h1⟩ | ⟨a, b, c, rfl, h1, h2, h3, h4, h5⟩
  · rcases hz with ⟨rfl, -⟩ | ⟨a, b, c, rfl, h1', h2', h3', h4', h5'⟩
    · rfl
    · exact absurd h4' (h1 a b c (mem a b c h4').1 (mem a b c h4').2 h1' h2')
  · rcases hz with ⟨rfl, h1'⟩ | ⟨a', b', c', rfl, h1', h2', h3', h4', h5'⟩
    · exact absurd h4 (h1' a b c (mem a b c h4).1 (mem a b c h4).2 h1 h2)
    · have g1 := h5 a' b' c' (mem a' b' c' h4').1 (mem a' b' c' h4').2 h1' h2' h4'
      have g2 := h5' a b c (mem a b c h4).1 (mem a b c h4).2 h1 h2 h4
      have : a = a' ∧ b = b' ∧ c = c' := by omega
      omega
theorem thQ_eq {s : St} {z : Int} (h : th3R (Ms s) (2 ^ sG s - 1) z) : thQ s = z := eps_uq h (fun _ hy => th3R_uq hy h)
noncomputable def aThree (s : St) (p : Int32) : Rs := rI (cif (zI (thQ s) = -1 ∨ p < 0 ∨ ¬ p ≤ nI 2) (-1) ((zI (thQ s) >>> ((nI 6 * p) &&& 31)) &&& nI 63))
/-- a place that a question may use, with what is known in its own cells -/
def Qw (CK S1 S2 : HX → St → Prop) (X : HX) (Y : HY) (s : St) : Prop := (InC 65 75 CK ∧ InC 76 76 S1 ∧ InC 77 77 S2) ∧ Qv CK S1 S2 X Y s
section Qry8
variable {CK S1 S2 : HX → St → Prop} {X X' : HX} {Y Y' : HY} {s : St} {b : Bool} {Q : Qt}
theorem Qw.si (h : Qw CK S1 S2 X Y s) : SI s := h.2.1
theorem Qw.bv (h : Qw CK S1 S2 X Y s) : BV 9 X s := h.2.2.1
theorem Qw.scr (h : Qw CK S1 S2 X Y s) (e : Scr b X X' Y Y') : Qw CK S1 S2 X' Y' s := by
  obtain ⟨⟨hC, h1, h2⟩, q1, q2, q3, q4, q5, q6, q7, q8, q9, q10, q11⟩ := h
  refine ⟨⟨hC, h1, h2⟩, q1, q2.of (fun c z1 z2 => e.x (by omega) (by simp; omega)), by rw [e.y (by omega) (by decide)]; exact q3, ⟨by rw [e.2.1]; exact q4.1, by rw [e.2.2.1]; exact q4.2⟩, ?_, ?_, ?_, ?_, ?_, ?_, ?_⟩
  · intro k hk
    have : sb S41 X' 4 = sb S41 X 4 := e.x (c := 45) (by omega) (by decide)
    rw [this]; exact q5 k hk
  · exact q6.mono (e.fl (by omega) (by decide)) (fun z => e.pk z)
  · exact q7.mono (e.fl (by omega) (by decide)) (fun z => ⟨by rw [e.fl (c := 25) (by omega) (by decide)]; exact z.1, e.lk z.2⟩)
  · exact q8.mono (e.fl (by omega) (by decide)) (fun z => ⟨by rw [e.fl (c := 41) (by omega) (by decide)]; exact z.1, e.ok z.2⟩)
  · exact q9.mono (e.fl (by omega) (by decide)) (fun z => ⟨by rw [e.fl (c := 41) (by omega) (by decide)]; exact z.1, hC X X' s (fun c z1 z2 => e.x (by omega) (by simp; omega)) z.2⟩)
  · exact q10.mono (e.fl (by omega) (by decide)) (fun z => h1 X X' s (fun c z1 z2 => e.x (by omega) (by simp; omega)) z)
  · exact q11.mono (e.fl (by omega) (by decide)) (fun z => h2 X X' s (fun c z1 z2 => e.x (by omega) (by simp; omega)) z)
theorem Q8_pairs (h : Qw CK S1 S2 X Y s) (k : ∀ X' Y', Kp b X X' Y Y' → Qw CK S1 S2 X' Y' s → PKo X' Y' s → Q (.inl none) (LX8 b) X' Y') : tX8_settlePairs b [.ref 0] (LX8 b) X Y Q :=
  X8_pairs_s h.1.1 h.1.2.1 h.1.2.2 h.2 (fun X' Y' a _ c _ e => k X' Y' a ⟨h.1, c⟩ e)
theorem Q8_lays (h : Qw CK S1 S2 X Y s) (k : ∀ X' Y', Kp b X X' Y Y' → Qw CK S1 S2 X' Y' s → X' 41 4 = nI 1 → PKo X' Y' s → LKo X' s → Q (.inl none) (LX8 b) X' Y') : tX8_settleLaying b [.ref 0] (LX8 b) X Y Q :=
  X8_lays_s h.1.1 h.1.2.1 h.1.2.2 h.2 (fun X' Y' a _ c d e f => k X' Y' a ⟨h.1, c⟩ d e f)
theorem Q8_guest {p : Int32} (h : Qw CK S1 S2 X Y s) (k1 : isG s p → Q (.inl none) (LX8 b) X Y) (k2 : ¬ isG s p → Q (.inr XI) (LX8 b) X Y) : tX8_needGuest b [.ref 0, .int p] (LX8 b) X Y Q := by
  have g9 := h.si.1
  apply tX8_needGuest_i
  rw [h.bv.1]
  refine ⟨fun q => k2 (fun z => z.1 q), fun q => ?_⟩
  rcases i32c p with z | ⟨g, hg, rfl⟩
  · exact absurd z q
  · rw [m_lt hg (by omega)]
    exact ⟨fun z => k1 ((isG_n hg).mpr z), fun z => k2 (fun y => z ((isG_n hg).mp y))⟩
theorem Q8_all (h : Qw CK S1 S2 X Y s) (k : Q (.inl (some (.long (lN (2 ^ sG s - 1))))) (LX8 b) X Y) : tX8_allGuests b [.ref 0] (LX8 b) X Y Q := by
  have g9 := h.si.1
  have := Nat.two_pow_pos (sG s)
  apply tX8_allGuests_i
  rw [h.bv.1]
  simp (disch := omega) only [m_0, m_L0, m_lt, m_le, m_eq, m_neg, m_in, m_clamp, m_add, m_sub, m_pred, m_mul, m_l, m_i, m_Land, m_Lor, m_and, m_or, m_xor, m_Landn, m_andn, m_LshlP, m_shl, m_LbitP, m_bit, m_cmp0P, m_Lb0, m_Lb1, m_b0, m_b1, Nat.one_mul, m_Lsub]
  exact k
/-- whether it can be laid, once that is known -/
theorem Q8_laid (h : Qw CK S1 S2 X Y s) (l : LKo X s) (k : ∀ z : Bool, (z = true ↔ layQ s) → Q (.inl (some (.int (nI z.toNat)))) (LX3 ++ []) (sb S41 X) (sb S41 Y)) : tX3_isLaid [.ref 0] (LX3 ++ []) (sb S41 X) (sb S41 Y) Q :=
  X3_isLaid_s l.1 (fun z hz => k z (hz.trans (lay_ld h.si)))
theorem Q8_needL (h : Qw CK S1 S2 X Y s) (k1 : layQ s → ∀ X' Y', Kp b X X' Y Y' → Qw CK S1 S2 X' Y' s → X' 41 4 = nI 1 → PKo X' Y' s → LKo X' s → Q (.inl none) (LX8 b) X' Y') (k2 : ¬ layQ s → ∀ X' Y', Kp b X X' Y Y' → Qw CK S1 S2 X' Y' s → Q (.inr XS) (LX8 b) X' Y') : tX8_needLaying b [.ref 0] (LX8 b) X Y Q := by
  have n79 := nC8_79 b
  apply tX8_needLaying_i
  refine Q8_lays h (fun X1 Y1 kp hq e4 pk lk => cK0_mk ?_)
  have e := Eq8.mg (b := b) (X := X1) (Y := Y1) S41
  refine Q8_laid hq lk (fun z hz => cS1_mk ⟨fun q => k1 (hz.mp (z11 q)) _ _ (kp.trans e.kp) (hq.scr e.scr) ?_ (e.scr.pk pk) (e.scr.lk lk), fun q => k2 (fun y => q (by rw [hz.mpr y]; decide)) _ _ (kp.trans e.kp) (hq.scr e.scr)⟩)
  rw [(e 41 (by omega)).1]; exact e4
theorem X8_can_s (h : Qw CK S1 S2 X Y s) (k : ∀ X' Y', Kp b X X' Y Y' → Qw CK S1 S2 X' Y' s → Q (aCan s) (LX8 b) X' Y') : tX8_can b [.ref 0] (LX8 b) X Y Q := by
  apply tX8_can_i
  refine Q8_lays h (fun X1 Y1 kp hq e4 pk lk => cK0_mk ?_)
  have e := Eq8.mg (b := b) (X := X1) (Y := Y1) S41
  refine Q8_laid hq lk (fun z hz => cS1_mk ?_)
  rw [iB_of hz]
  exact ⟨iB01 _, k _ _ (kp.trans e.kp) (hq.scr e.scr)⟩
theorem X8_moments_s (h : Qw CK S1 S2 X Y s) (k : ∀ X' Y', Kp b X X' Y Y' → Qw CK S1 S2 X' Y' s → Q (aMoments s) (LX8 b) X' Y') : tX8_moments b [.ref 0] (LX8 b) X Y Q := by
  apply tX8_moments_i
  refine Q8_lays h (fun X1 Y1 kp hq e4 pk lk => cK0_mk ?_)
  have e : X1 41 3 = nI (sm s) := lk.1.1.2.1
  rw [e]
  exact k _ _ kp hq
theorem X8_moment_s {p : Int32} (h : Qw CK S1 S2 X Y s) (k : ∀ X' Y', Kp b X X' Y Y' → Qw CK S1 S2 X' Y' s → Q (aMoment s p) (LX8 b) X' Y') : tX8_moment b [.ref 0, .int p] (LX8 b) X Y Q := by
  apply tX8_moment_i
  refine Q8_lays h (fun X1 Y1 kp hq e4 pk lk => cK0_mk ?_)
  have e : X1 41 3 = nI (sm s) := lk.1.1.2.1
  have h27 : sm s ≤ 27 := lk.1.1.1
  have k' := k X1 Y1 kp hq
  unfold aMoment at k'
  rw [e]
  refine ⟨fun q => by rw [cif_n (fun z => z.1 q)] at k'; exact k', fun q => ?_⟩
  rcases i32c p with z | ⟨g, hg, rfl⟩
  · exact absurd z q
  · rw [m_clamp hg] at k'
    simp (disch := omega) only [m_0, m_L0, m_lt, m_le, m_eq, m_neg, m_in, m_clamp, m_add, m_sub, m_pred, m_mul, m_l, m_i, m_Land, m_Lor, m_and, m_or, m_xor, m_Landn, m_andn, m_LshlP, m_shl, m_LbitP, m_bit, m_cmp0P, m_Lb0, m_Lb1, m_b0, m_b1, Nat.one_mul]
    refine ⟨fun z => by rw [cif_n (fun y => by omega)] at k'; exact k', fun z => ⟨fun _ => ⟨by omega, ?_⟩, fun y => by omega⟩⟩
    rw [cif_y ⟨q, by omega⟩] at k'
    have e2 : X1 42 g = nI (so s g) := (lk.1.1.2.2 g (by omega)).1
    rw [e2]; exact k'
theorem X8_lay_s {p : Int32} (h : Qw CK S1 S2 X Y s) (k : ∀ X' Y', Kp b X X' Y Y' → Qw CK S1 S2 X' Y' s → Q (aLay s p) (LX8 b) X' Y') : tX8_lay b [.ref 0, .int p] (LX8 b) X Y Q := by
  apply tX8_lay_i
  refine Q8_needL h (fun hl X1 Y1 kp hq e4 pk lk => cK0_mk ?_) (fun hl X1 Y1 kp hq => cK0_ex ?_)
  · have e : X1 41 3 = nI (sm s) := lk.1.1.2.1
    have h9 := lay_9 h.si hl
    have k' := k X1 Y1 kp hq
    unfold aLay at k'
    rw [cif_y hl] at k'
    rw [e]
    refine ⟨fun q => by rw [cif_n (fun z => z.1 q)] at k'; exact k', fun q => ?_⟩
    rcases i32c p with z | ⟨g, hg, rfl⟩
    · exact absurd z q
    · rw [m_clamp hg] at k'
      simp (disch := omega) only [m_0, m_L0, m_lt, m_le, m_eq, m_neg, m_in, m_clamp, m_add, m_sub, m_pred, m_mul, m_l, m_i, m_Land, m_Lor, m_and, m_or, m_xor, m_Landn, m_andn, m_LshlP, m_shl, m_LbitP, m_bit, m_cmp0P, m_Lb0, m_Lb1, m_b0, m_b1, Nat.one_mul]
      refine ⟨fun z => by rw [cif_n (fun y => by omega)] at k'; exact k', fun z => ⟨fun _ => ⟨by omega, ?_⟩, fun y => by omega⟩⟩
      rw [cif_y ⟨q, by omega⟩] at k'
      obtain ⟨le, l1, l2⟩ := lk.2 ((lay_ld h.si).mpr hl)
      rw [may_eq h.si] at l1
      have e2 : X1 43 g = nI (le g) := l2 g (by omega)
      rw [e2, leQ_eq h.si hl l1 g (by omega)]; exact k'
  · have k' := k X1 Y1 kp hq
    unfold aLay at k'
    rw [cif_n hl] at k'
    exact k'
/-- THE LEAST, once that is known -/
theorem LKo.le (hI : SI s) (l : LKo X s) (hl : layQ s) : LeV (sb S41 X) (sm s) (leQ s) := by
  obtain ⟨le, l1, l2⟩ := l.2 ((lay_ld hI).mpr hl)
  rw [may_eq hI] at l1
  exact fun p hp => by rw [l2 p hp, leQ_eq hI hl l1 p hp]
theorem X8_stays_s {p l : Int32} (h : Qw CK S1 S2 X Y s) (k : ∀ X' Y', Kp b X X' Y Y' → Qw CK S1 S2 X' Y' s → Q (aStays s p l) (LX8 b) X' Y') : tX8_stays b [.ref 0, .int p, .int l] (LX8 b) X Y Q := by
  have g9 := h.si.1
  apply tX8_stays_i
  refine Q8_guest h (fun hg => cK0_mk ?_) (fun hg => cK0_ex ?_)
  · obtain ⟨g, hg', rfl⟩ := isG_c hg
    refine Q8_needL h (fun hl X1 Y1 kp hq e4 pk lk => cK0_mk ?_) (fun hl X1 Y1 kp hq => cK0_ex ?_)
    · have h9 := lay_9 h.si hl
      have e := Eq8.mg (b := b) (X := X1) (Y := Y1) S41
      have k' := k _ _ (kp.trans e.kp) (hq.scr e.scr)
      unfold aStays at k'
      rw [cif_y hg, cif_y hl, m_clamp (by omega)] at k'
      have P := Pl_is h.si hl g hg'
      refine ⟨fun q => ?_, fun q => ?_⟩
      · rw [cif_y q] at k'
        refine X3_first_s (r := []) lk.1.1 h9 (lk.le h.si hl) (leQ_lt h.si hl) (by omega) (fun z hz => cS1_mk ?_)
        have : z = fpQ s g := by
          rcases hz with ⟨-, q⟩ | ⟨y, rfl, q1, q2, q3⟩
          · exact absurd P.1.2.1 (q _ P.1.1)
          · have : ¬ y < fpQ s g := fun q => P.1.2.2 _ q q2
            have : ¬ fpQ s g < y := fun q => q3 _ q P.1.2.1
            omega
        rw [this, m_zI]; exact k'
      · rw [cif_n q] at k'
        refine X3_last_s (r := []) lk.1.1 h9 (lk.le h.si hl) (leQ_lt h.si hl) (by omega) (fun z hz => cS1_mk ?_)
        rw [PlO_l (Pl_is h.si hl) hg' hz, m_zI]; exact k'
    · have k' := k _ _ kp hq
      unfold aStays at k'
      rw [cif_y hg, cif_n hl] at k'
      exact k'
  · have k' := k _ _ Kp.rfl h
    unfold aStays at k'
    rw [cif_n hg] at k'
    exact k'
theorem X8_count_s (h : Qw CK S1 S2 X Y s) (k : ∀ X' Y', Kp b X X' Y Y' → Qw CK S1 S2 X' Y' s → Q (aCount s) (LX8 b) X' Y') : tX8_count b [.ref 0] (LX8 b) X Y Q := by
  apply tX8_count_i
  refine Q8_lays h (fun X1 Y1 kp hq e4 pk lk => cK0_mk ?_)
  have e := Eq8.mg (b := b) (X := X1) (Y := Y1) S41
  refine X3_layings_s (r := []) lk.1 (fun n hn n1 n2 => cS1_mk ?_)
  have k' := k _ _ (kp.trans e.kp) (hq.scr e.scr)
  unfold aCount at k'
  rw [m_l (by omega)]
  by_cases hl : layQ s
  · rw [cif_y hl] at k'
    rw [n1 ((lay_ld h.si).mpr hl), may_eq h.si]; exact k'
  · rw [cif_n hl] at k'
    rw [n2 (fun q => hl ((lay_ld h.si).mp q))]; exact k'
theorem X8_opens_s (h : Qw CK S1 S2 X Y s) (k : ∀ X' Y', Kp b X X' Y Y' → Qw CK S1 S2 X' Y' s → Q (aOpens s) (LX8 b) X' Y') : tX8_opens b [.ref 0] (LX8 b) X Y Q := by
  apply tX8_opens_i
  refine Q8_pairs h (fun X1 Y1 kp hq pk => cK0_mk ?_)
  rw [pk.2.2.1]
  exact k _ _ kp hq
theorem X8_pair_s {p q : Int32} (h : Qw CK S1 S2 X Y s) (k : ∀ X' Y', Kp b X X' Y Y' → Qw CK S1 S2 X' Y' s → Q (aPair s p q) (LX8 b) X' Y') : tX8_pair b [.ref 0, .int p, .int q] (LX8 b) X Y Q := by
  have g9 := h.si.1
  apply tX8_pair_i
  refine Q8_guest h (fun hp => cK0_mk (Q8_guest h (fun hq => cK0_mk ?_) (fun hq => cK0_ex ?_))) (fun hp => cK0_ex ?_)
  · obtain ⟨x, hx, rfl⟩ := isG_c hp
    obtain ⟨y, hy, rfl⟩ := isG_c hq
    refine Q8_pairs h (fun X1 Y1 kp hq1 pk => cK0_mk ?_)
    refine ⟨fun hn => ?_, fun hn => ?_⟩
    · refine X5_stateOf_s (L' := []) (s := s) (F := sFo s) h.si hq1.bv pk.1 (by omega) (by omega) (cS1_mk ?_)
      have e := Eq8.mg (b := b) (X := X1) (Y := Y1) [25, 26, 27, 28, 9, 10, 11, 12, 13, 14, 15, 16]
      have k' := k _ _ (kp.trans e.kp) (hq1.scr e.scr)
      unfold aPair at k'
      rw [cif_y ⟨hp, hq⟩, cif_n hn, m_clamp (by omega), m_clamp (by omega)] at k'
      exact k'
    · have k' := k _ _ kp hq1
      unfold aPair at k'
      rw [cif_y ⟨hp, hq⟩, cif_y (Classical.not_not.mp hn)] at k'
      exact k'
  · have k' := k _ _ Kp.rfl h
    unfold aPair at k'
    rw [cif_n (fun z => hq z.2)] at k'
    exact k'
  · have k' := k _ _ Kp.rfl h
    unfold aPair at k'
    rw [cif_n (fun z => hp z.1)] at k'
    exact k'
/-! the net of who met whom, as Meetings has it -/
theorem Qw.vm (h : Qw CK S1 S2 X Y s) (p : PKo X Y s) : VM 10 (sb [33, 34, 35, 36] X) (sb [33, 34, 35, 36] Y) (Ms s) := by
  refine ⟨by omega, h.2.2.2.2.1.1, fun i hi => ⟨p.2.1 i hi, ?_⟩⟩
  have := Ms_lt h.si i; omega
theorem full_bd (hI : SI s) : 2 ^ sG s - 1 < 1152921504606846976 := by have := pw9 hI.1; omega
theorem full_w (hI : SI s) : ∀ v, Bs (2 ^ sG s - 1) v → v < 10 := fun v hv => by have := bs_full.mp hv; have := hI.1; omega
/-- what a callee in Meetings leaves -/
theorem scr33 {X3 : HX} {Y3 : HY} (f1 : ∀ c, c ≠ 0 → c ≠ 2 → X3 c = sb [33, 34, 35, 36] X c) (f2 : ∀ i, i ≠ 1 → X3 0 i = sb [33, 34, 35, 36] X 0 i) (g : ∀ c, c ≠ 3 → Y3 c = sb [33, 34, 35, 36] Y c) : Scr b X (mg [33, 34, 35, 36] (LX8 b).length X X3) Y (mg [33, 34, 35, 36] (LX8 b).length Y Y3) := by
  have n79 := nC8_79 b
  have ln : (LX8 b).length = nC8 b := rfl
  rw [ln]
  refine ⟨fun c hc hd => ?_, ?_, ?_, fun c hc hd => ?_⟩
  · refine mg_fr (ch := [0, 2]) (fun i _ hj => f1 i (fun e => hj (by simp [e])) (fun e => hj (by simp [e]))) hc ?_
    simp only [List.mem_cons, List.not_mem_nil, or_false, not_or] at hd
    simp; omega
  · rw [show mg [33, 34, 35, 36] (nC8 b) X X3 33 = X3 0 from mg_in 0 (by omega) rfl rfl, f2 2 (by omega)]; rfl
  · rw [mg_out (by omega) (by decide)]
  · refine mg_fr (ch := [3]) (fun i _ hj => g i (fun e => hj (by simp [e]))) hc ?_
    simp only [List.mem_cons, List.not_mem_nil, or_false, not_or] at hd
    simp; omega
theorem X8_knot_s (h : Qw CK S1 S2 X Y s) (k : ∀ X' Y', Kp b X X' Y Y' → Qw CK S1 S2 X' Y' s → Q (aKnot s) (LX8 b) X' Y') : tX8_knot b [.ref 0] (LX8 b) X Y Q := by
  apply tX8_knot_i
  refine Q8_lays h (fun X1 Y1 kp hq e4 pk lk => cK0_mk ?_)
  have e := Eq8.mg (b := b) (X := X1) (Y := Y1) S41
  refine Q8_laid hq lk (fun z hz => cS1_mk ⟨fun q => ?_, fun q => ?_⟩)
  · have hn : ¬ layQ s := fun y => by rw [hz.mpr y] at q; exact absurd q (by decide)
    have hq1 := hq.scr e.scr
    have pk1 := e.scr.pk pk
    revert hq1 pk1 e
    generalize mg S41 (LX8 b).length X1 (sb S41 X1) = X2
    generalize mg S41 (LX8 b).length Y1 (sb S41 Y1) = Y2
    intro e hq1 pk1
    refine Q8_all hq1 (cK2_mk (X4_isRingless_s (r := []) (hq1.vm pk1) (Ms_gm h.si) (full_bd h.si) (full_w h.si) (fun y X3 f1 f2 hy _ => cS1_mk ?_)))
    have sc := scr33 (b := b) (X := X2) (Y := Y2) f1 f2 (fun c _ => rfl)
    have k' := k _ _ ((kp.trans e.kp).trans sc.kp) (hq1.scr sc)
    unfold aKnot at k'
    rw [cif_n hn] at k'
    refine ⟨fun q2 => ?_, fun q2 => ?_⟩
    · rw [cif_n (fun z => by rw [hy.mpr z] at q2; exact absurd q2 (by decide))] at k'; exact k'
    · rw [cif_y (hy.mp (z11 q2))] at k'; exact k'
  · have k' := k _ _ (kp.trans e.kp) (hq.scr e.scr)
    unfold aKnot at k'
    rw [cif_y (hz.mp (z11 q))] at k'; exact k'
theorem X8_three_s {p : Int32} (h : Qw CK S1 S2 X Y s) (k : ∀ X' Y', Kp b X X' Y Y' → Qw CK S1 S2 X' Y' s → Q (aThree s p) (LX8 b) X' Y') : tX8_three b [.ref 0, .int p] (LX8 b) X Y Q := by
  apply tX8_three_i
  refine Q8_pairs h (fun X1 Y1 kp hq pk => cK0_mk ?_)
  refine Q8_all hq (cK2_mk (X4_findThree_s (r := []) (hq.vm pk) (Ms_gm h.si) (full_bd h.si) (full_w h.si) (fun z Y3 g hz => cS1_mk ?_)))
  have sc := scr33 (b := b) (X := X1) (Y := Y1) (X3 := sb [33, 34, 35, 36] X1) (fun c _ _ => rfl) (fun i _ => rfl) g
  have k' := k _ _ (kp.trans sc.kp) (hq.scr sc)
  unfold aThree at k'
  rw [thQ_eq hz] at k'
  refine ⟨fun q => ?_, fun q => ⟨fun q2 => ?_, fun q2 => ⟨fun q3 => ?_, fun q3 => ?_⟩⟩⟩
  · rw [cif_y (Or.inl q)] at k'; exact k'
  · rw [cif_y (Or.inr (Or.inl q2))] at k'; exact k'
  · rw [cif_n (fun y => y.elim q (fun y => y.elim q2 (fun y => y q3)))] at k'; exact k'
  · rw [cif_y (Or.inr (Or.inr q3))] at k'; exact k'
/-- what giveRooms leaves -/
theorem scr44 {X3 : HX} (f1 : ∀ c, c ≠ 3 → X3 c = sb S41 X c) : Scr b X (mg S41 (LX8 b).length X X3) Y (mg S41 (LX8 b).length Y (sb S41 Y)) := by
  have n79 := nC8_79 b
  have ln : (LX8 b).length = nC8 b := rfl
  rw [ln]
  refine ⟨fun c hc hd => ?_, by rw [mg_out (by omega) (by decide)], by rw [mg_out (by omega) (by decide)], fun c hc _ => mg_sb hc⟩
  refine mg_fr (ch := [3]) (fun i _ hj => f1 i (fun e => hj (by simp [e]))) hc ?_
  simp only [List.mem_cons, List.not_mem_nil, or_false, not_or] at hd
  simp; omega
theorem X8_room_s {p : Int32} (h : Qw CK S1 S2 X Y s) (k : ∀ X' Y', Kp b X X' Y Y' → Qw CK S1 S2 X' Y' s → Q (aRoom s p) (LX8 b) X' Y') : tX8_room b [.ref 0, .int p] (LX8 b) X Y Q := by
  have n79 := nC8_79 b
  have g9 := h.si.1
  apply tX8_room_i
  refine Q8_guest h (fun hg => cK0_mk ?_) (fun hg => cK0_ex ?_)
  · obtain ⟨g, hg', rfl⟩ := isG_c hg
    refine Q8_needL h (fun hl X1 Y1 kp hq e4 pk lk => cK0_mk ?_) (fun hl X1 Y1 kp hq => cK0_ex ?_)
    · have h9 := lay_9 h.si hl
      rw [hq.bv.1]
      refine X3_rooms_s (r := []) lk.1.1 h9 (lk.le h.si hl) (leQ_lt h.si hl) g9 (Pl_is h.si hl) (fun X3 R f1 hR hx => cS0_mk ?_)
      have sc := scr44 (b := b) (X := X1) (Y := Y1) f1
      have k' := k _ _ (kp.trans sc.kp) (hq.scr sc)
      unfold aRoom at k'
      rw [cif_y hg, cif_y hl, m_clamp (by omega)] at k'
      have e44 : mg S41 (LX8 b).length X1 X3 44 = X3 3 := mg_in 3 (by show 44 < nC8 b; omega) rfl rfl
      simp (disch := omega) only [m_0, m_L0, m_lt, m_le, m_eq, m_neg, m_in, m_clamp, m_add, m_sub, m_pred, m_mul, m_l, m_i, m_Land, m_Lor, m_and, m_or, m_xor, m_Landn, m_andn, m_LshlP, m_shl, m_LbitP, m_bit, m_cmp0P, m_Lb0, m_Lb1, m_b0, m_b1, Nat.one_mul, e44, (hx g hg').1]
      rw [rmQ_eq hR g hg']
      exact ⟨by omega, k'⟩
    · have k' := k _ _ kp hq
      unfold aRoom at k'
      rw [cif_y hg, cif_n hl] at k'
      exact k'
  · have k' := k _ _ Kp.rfl h
    unfold aRoom at k'
    rw [cif_n hg] at k'
    exact k'
theorem X8_rooms_s (h : Qw CK S1 S2 X Y s) (k : ∀ X' Y', Kp b X X' Y Y' → Qw CK S1 S2 X' Y' s → Q (aRooms s) (LX8 b) X' Y') : tX8_rooms b [.ref 0] (LX8 b) X Y Q := by
  have n79 := nC8_79 b
  have g9 := h.si.1
  apply tX8_rooms_i
  refine Q8_needL h (fun hl X1 Y1 kp hq e4 pk lk => cK0_mk ?_) (fun hl X1 Y1 kp hq => cK0_ex ?_)
  · have h9 := lay_9 h.si hl
    rw [hq.bv.1]
    refine X3_rooms_s (r := []) lk.1.1 h9 (lk.le h.si hl) (leQ_lt h.si hl) g9 (Pl_is h.si hl) (fun X3 R f1 hR hx => cS0_mk ?_)
    have sc := scr44 (b := b) (X := X1) (Y := Y1) f1
    have k' := k _ _ (kp.trans sc.kp) (hq.scr sc)
    have hq2 := hq.scr sc
    unfold aRooms at k'
    rw [cif_y hl] at k'
    have e44 : mg S41 (LX8 b).length X1 X3 44 = X3 3 := mg_in 3 (by show 44 < nC8 b; omega) rfl rfl
    revert k' hq2 e44
    generalize mg S41 (LX8 b).length X1 X3 = X4
    generalize mg S41 (LX8 b).length Y1 (sb S41 Y1) = Y4
    intro k' hq2 e44
    have H : ∀ t g n, g + t = sG s → n ≤ 9 → (∀ o, o < g → rmQ s o < n) → (n = 0 ∨ ∃ o, o < g ∧ rmQ s o + 1 = n) → hX8_rooms_22 Q b (nI n) (nI g) X4 Y4 := by
      intro t
      induction t with
      | zero =>
        intro g n hg hn i1 i2
        have e : g = sG s := by omega
        subst e
        apply hX8_rooms_22_i
        rw [hq2.bv.1]
        simp (disch := omega) only [m_0, m_L0, m_lt, m_le, m_eq, m_neg, m_in, m_clamp, m_add, m_sub, m_pred, m_mul, m_l, m_i, m_Land, m_Lor, m_and, m_or, m_xor, m_Landn, m_andn, m_LshlP, m_shl, m_LbitP, m_bit, m_cmp0P, m_Lb0, m_Lb1, m_b0, m_b1, Nat.one_mul]
        rw [rms_eq i1 i2] at k'
        exact ⟨fun _ => k', fun h => by omega⟩
      | succ t ih =>
        intro g n hg hn i1 i2
        have hx9 := hx g (by omega)
        have eR := rmQ_eq hR g (by omega)
        apply hX8_rooms_22_i
        rw [hq2.bv.1]
        simp (disch := omega) only [m_0, m_L0, m_lt, m_le, m_eq, m_neg, m_in, m_clamp, m_add, m_sub, m_pred, m_mul, m_l, m_i, m_Land, m_Lor, m_and, m_or, m_xor, m_Landn, m_andn, m_LshlP, m_shl, m_LbitP, m_bit, m_cmp0P, m_Lb0, m_Lb1, m_b0, m_b1, Nat.one_mul, e44, hx9.1, eR]
        refine ⟨fun h => by omega, fun _ => ⟨by omega, tMax_i (cK1_mk ?_)⟩⟩
        have em : (if nI n < nI (rmQ s g + 1) then nI (rmQ s g + 1) else nI n) = nI (if n < rmQ s g + 1 then rmQ s g + 1 else n) := by
          by_cases q : n < rmQ s g + 1
          · rw [if_pos q, if_pos ((m_lt (by omega) (by omega)).mpr q)]
          · rw [if_neg q, if_neg (fun z => q ((m_lt (by omega) (by omega)).mp z))]
        rw [em]
        refine ih (g + 1) _ (by omega) (by split <;> omega) (fun o ho => ?_) ?_
        · by_cases e : o = g
          · subst e; split <;> omega
          · have := i1 o (by omega); split <;> omega
        · by_cases q : n < rmQ s g + 1
          · rw [if_pos q]; exact Or.inr ⟨g, by omega, rfl⟩
          · rw [if_neg q]
            exact i2.imp id (fun ⟨o, z1, z2⟩ => ⟨o, by omega, z2⟩)
    exact H (sG s) 0 0 (Nat.zero_add _) (by omega) (fun o ho => by omega) (Or.inl rfl)
  · have k' := k _ _ kp hq
    unfold aRooms at k'
    rw [cif_n hl] at k'
    exact k'
end Qry8
