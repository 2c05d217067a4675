/-! listed by the reference: the method -/
section Ltm9
variable {CM : HX → St → Prop} {X X' : HX} {Y Y' : HY} {s : St} {r : Ly} {Q : Qt} {l : Ls}
theorem LM.of {X X' : HX} {Y Y' : HY} (h : LM X Y l) (e : X' 1 = X 1) (e3 : Y' 3 = Y 3) : LM X' Y' l := by
  unfold LM at h ⊢
  rw [e, e3]; exact h
theorem X9_listed_s {q : Int32} (h : Mw CM X Y s) (lm : LM X Y l) (k : ∀ X' res, ScM X X' Y Y → Mw CM X' Y s → LM X' Y l → ansM cd1 (aListed l q) (X' 0 0) res → Q res (LX9 ++ r) X' Y) : tX9_listed [.ref 0, .int q] (LX9 ++ r) X Y Q := by
  obtain ⟨li, l260, l261, lr⟩ := id lm
  have l60 := li.1
  have v0 : vp_in (nI 260) 262 := (m_in (by omega)).mpr (by omega)
  have c0 : (nI 260).toNatClampNeg = 260 := m_clamp (by omega)
  have v1 : vp_in (nI 261) 262 := (m_in (by omega)).mpr (by omega)
  have c1 : (nI 261).toNatClampNeg = 261 := m_clamp (by omega)
  have sc : ∀ v, ScM X (up2 X 0 0 v) Y Y := fun v => .up (by decide)
  have hh : ∀ v, Mw CM (up2 X 0 0 v) Y s := fun v => h.sc (sc v)
  have ll : ∀ v, LM (up2 X 0 0 v) Y l := fun v => lm.of (up2_row (by omega)) rfl
  apply tX9_listed_i
  refine Q9_in (by omega) (by omega) (fun z hz => cK1_mk ?_)
  rw [up2_same, up2_same]
  refine ⟨fun y => ?_, fun y => ?_⟩
  · have hq := hz.mp (z11 y)
    obtain ⟨w, hw, rfl⟩ : ∃ w, w < 5 ∧ q = nI w := by
      rcases i32c q with y' | ⟨w, hw, rfl⟩
      · exact absurd y' hq.1
      · have := hq.2; rw [m_lt (by omega) hw] at this; exact ⟨w, by omega, rfl⟩
    have hq' : ¬ nI w < 0 ∧ nI w ≤ nI 4 := ⟨hq.1, by rw [m_le (by omega) (by omega)]; omega⟩
    have kk := fun X' res a b c d => k X' res a b c d
    unfold aListed at kk
    rw [cif_y hq'] at kk
    rw [c0, c1]
    have X0 : ∀ v, up2 X 0 0 v 1 260 = nI l.1 := fun v => by rw [up2_row (by omega)]; exact l260
    have X1 : ∀ v, up2 X 0 0 v 1 261 = nI (lsPr l) := fun v => by rw [up2_row (by omega)]; exact l261
    rw [X0, X1]
    refine ⟨fun _ => ?_, fun y => absurd (by decide) y⟩
    have ci : cif (lsC l) (nI (lsG l)) (-1) = -1 ↔ ¬ lsC l := by
      by_cases c : lsC l
      · rw [cif_y c]
        refine ⟨fun e => ?_, fun e => absurd c e⟩
        have g60 : lsG l ≤ 64 := by
          -- it is the size of a set
          obtain ⟨g, hg⟩ : ∃ g, mxP (Eo l.2) (lsS l) g := by
            have H : ∀ n, (∀ K : Nat → Prop, (∀ v, K v → lsS l v) → gCl (Eo l.2) K → gSz K 64 ≤ n) → ∃ g, mxP (Eo l.2) (lsS l) g := by
              intro n
              induction n with
              | zero => intro hb; exact ⟨0, ⟨fun _ => False, fun v hv => hv.elim, fun a b ha => ha.elim, gSz_0 (fun _ h => h) 64⟩, hb⟩
              | succ n ih =>
                intro hb
                by_cases ex : ∃ K : Nat → Prop, (∀ v, K v → lsS l v) ∧ gCl (Eo l.2) K ∧ gSz K 64 = n + 1
                · exact ⟨n + 1, ex, hb⟩
                · exact ih (fun K k1 k2 => by
                    have := hb K k1 k2
                    have : gSz K 64 ≠ n + 1 := fun e => ex ⟨K, k1, k2, e⟩
                    omega)
            exact H 64 (fun K _ _ => gSz_bd)
          rw [lsG_eq hg]
          obtain ⟨⟨K, -, -, e⟩, -⟩ := hg
          rw [← e]; exact gSz_bd
        exact absurd e (nI_m1 (by omega))
      · rw [cif_n c]; exact ⟨fun _ => c, fun _ => rfl⟩
    obtain rfl | rfl | rfl | rfl | rfl : w = 0 ∨ w = 1 ∨ w = 2 ∨ w = 3 ∨ w = 4 := by omega
    · refine ⟨fun _ => ⟨fun _ => X9_greatest_s li (X0 _) lr (cK1_mk ⟨fun _ => ?_, fun y => absurd (by decide) y⟩), fun y => absurd (by decide) y⟩, fun y => absurd (by decide) y⟩
      rw [ci]
      refine ⟨fun q1 => ⟨fun y => absurd y (by decide), fun _ => X9_noThree_L li (X0 _) lr (fun X2 z2 f2 hz2 => cK1_mk ?_)⟩, fun q1 => ?_⟩
      · have c := Classical.not_not.mp q1
        have s2 : ScM (up2 X 0 0 (nI 0)) X2 Y Y := .cell (by decide) f2
        have kz := fun res => kk X2 res ((sc _).trans s2) ((hh _).sc s2) ((ll _).of (f2 1 (by omega)) rfl)
        rw [if_pos (show nI 0 = 0 from rfl), f2 0 (by omega), up2_same] at kz
        refine ⟨fun q2 => kz _ ⟨rfl, ?_⟩, fun q2 => kz _ ⟨rfl, ?_⟩⟩
        · rw [iB_n (fun y => by rw [hz2.mpr y.2] at q2; exact absurd q2 (by decide))]
        · rw [iB_y ⟨c, hz2.mp (z11 q2)⟩]
      · have nc := Classical.not_not.mp q1
        refine kk _ _ (sc _) (hh _) (ll _) ⟨up2_same, ?_⟩
        rw [if_pos (show nI 0 = 0 from rfl), iB_n (fun y => nc y.1)]
    · refine ⟨fun _ => ⟨fun _ => X9_greatest_s li (X0 _) lr (cK1_mk ⟨fun _ => ?_, fun y => absurd (by decide) y⟩), fun y => absurd (by decide) y⟩, fun y => absurd (by decide) y⟩
      rw [ci]
      refine ⟨fun q1 => ⟨fun _ => kk _ _ (sc _) (hh _) (ll _) ⟨up2_same, ?_⟩, fun y => absurd rfl y⟩, fun q1 => kk _ _ (sc _) (hh _) (ll _) ⟨up2_same, ?_⟩⟩
      · rw [if_neg (by decide), if_pos rfl, iB_y (Classical.not_not.mp q1)]
      · rw [if_neg (by decide), if_pos rfl, iB_n (Classical.not_not.mp q1)]
    · refine ⟨fun _ => ⟨fun _ => X9_greatest_s li (X0 _) lr (cK1_mk ⟨fun y => absurd rfl y, fun _ => kk _ _ (sc _) (hh _) (ll _) ⟨up2_same, ?_⟩⟩), fun y => absurd (by decide) y⟩, fun y => absurd (by decide) y⟩
      rw [if_neg (by decide), if_neg (by decide), if_pos rfl]
    · refine ⟨fun y => absurd rfl y, fun _ => ⟨v1, kk _ _ (sc _) (hh _) (ll _) ⟨up2_same, ?_⟩⟩⟩
      rw [if_neg (by decide), if_neg (by decide), if_neg (by decide), if_pos rfl]
    · refine ⟨fun _ => ⟨fun y => absurd rfl y, fun _ => ⟨v0, kk _ _ (sc _) (hh _) (ll _) ⟨up2_same, ?_⟩⟩⟩, fun y => absurd (by decide) y⟩
      rw [if_neg (by decide), if_neg (by decide), if_neg (by decide), if_neg (by decide)]
  · have hn : ¬ (¬ q < 0 ∧ q ≤ nI 4) := fun w => y (by
      rw [hz.mpr ⟨w.1, fun z => by
        rcases i32c q with y' | ⟨x, hx, rfl⟩
        · exact absurd y' w.1
        · have h2 := w.2; rw [m_le hx (by omega)] at h2; rw [m_lt (by omega) hx] at z; omega⟩]
      decide)
    refine ⟨fun y => absurd y (by decide), fun _ => k _ _ (sc _) (hh _) (ll _) ?_⟩
    unfold aListed
    rw [cif_n hn]
    exact ⟨up2_same, _, rfl⟩
end Ltm9
