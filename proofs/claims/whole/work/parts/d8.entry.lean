/-! what stands at the law's entry -/
def tmS (i : Nat) : Term := .string RX6 ([90, 96, 98, 100, 102, 104].getD i 0)
def fcL : List Cond := flatC (Jvm.Cond.and given_1 narrow_1)
theorem fl_ex : ∀ i, i < 6 → Cond.exactly (tmS i) "java/lang/String" ∈ fcL := by decide +kernel
theorem fl_co : ∀ i, i < 6 → Cond.eq (.field (tmS i) "java/lang/String" "coder" "B") (.int 0) ∈ fcL := by decide +kernel
theorem fl_ar : ∀ i, i < 6 → Cond.arrayOf (.field (tmS i) "java/lang/String" "value" "[B") .byte ∈ fcL := by decide +kernel
theorem fl_le : ∀ i, i < 6 → Cond.eq (.length (.field (tmS i) "java/lang/String" "value" "[B")) (.int (Int32.ofNat (lenPS.getD i 0))) ∈ fcL := by decide +kernel
theorem fl_el : ∀ i, i < 6 → ∀ j, j < lenPS.getD i 0 → Cond.eq (.elem (.field (tmS i) "java/lang/String" "value" "[B") (.int (Int32.ofNat j))) (.int ((bytPS.getD i []).getD j 0)) ∈ fcL := by decide +kernel
theorem fl_ne : ∀ i, i < 6 → ∀ j, j < 6 → i ≠ j → Cond.not (Cond.eq (tmS i) (tmS j)) ∈ fcL ∨ Cond.not (Cond.eq (tmS j) (tmS i)) ∈ fcL := by decide +kernel
theorem fl_eq : ∀ q ∈ strTab, q.1 = RX6 ∧ tmS q.2.2.2 = .string q.1 q.2.1 ∨ Cond.eq (tmS q.2.2.2) (.string q.1 q.2.1) ∈ fcL := by decide +kernel
theorem fl_sr : ∀ q ∈ strTab, Cond.stringRef q.1 q.2.1 q.2.2.1 ∈ lw_tbl ∧ q.2.2.2 < 6 := by decide +kernel
theorem fl_nc : ∀ q ∈ ncL, Cond.not (.castable q.1 q.2) ∈ fcL := by decide +kernel
theorem fl_nt : ∀ q ∈ nestTab, Cond.methodLinkNest q.1 q.2.1 q.2.2.1 q.2.2.2 ∈ lw_tbl := by decide +kernel
theorem fl_in : ∀ q ∈ vwCl, Cond.instantiable q.1 q.2.2 ∈ lw_tbl := by decide +kernel
theorem fl_us : Cond.laysStatic Bundle.tN "UNASSIGNED_STACK" Bundle.steD ∈ lw_tbl ∧ Cond.initialized Bundle.tN ∈ lw_tbl ∧ Cond.isRef (.static Bundle.tN "UNASSIGNED_STACK" Bundle.steD) ∈ fcL := by decide +kernel
theorem fl_ss : Cond.laysStatic Bundle.tN "SUPPRESSED_SENTINEL" Bundle.listD ∈ lw_tbl ∧ Cond.isRef (.static Bundle.tN "SUPPRESSED_SENTINEL" Bundle.listD) ∈ fcL := by decide +kernel
theorem fl_cs : Cond.laysStatic "java/lang/String" "COMPACT_STRINGS" "Z" ∈ lw_tbl ∧ Cond.initialized "java/lang/String" ∈ lw_tbl ∧ Cond.eq (.static "java/lang/String" "COMPACT_STRINGS" "Z") (.int 1) ∈ fcL := by decide +kernel
theorem fl_sf : Cond.laysStatic "jdk/internal/util/Preconditions" "SIOOBE_FORMATTER" "Ljava/util/function/BiFunction;" ∈ lw_tbl ∧ Cond.initialized "jdk/internal/util/Preconditions" ∈ lw_tbl ∧ Cond.isRef (.static "jdk/internal/util/Preconditions" "SIOOBE_FORMATTER" "Ljava/util/function/BiFunction;") ∈ fcL := by decide +kernel
/-- the class' name of the law asks nothing: it puts no field -/
theorem goLaw_n (b : Bool) (nm : String) : gOk RL nm cL_law (some .boolean) (gLaw b) := by
  obtain ⟨h1, h2, -, h4⟩ := goLaw b
  exact ⟨h1, h2, fun _ _ _ _ _ _ _ _ h => (by cases h), h4⟩
theorem same_forget {s s' : State} {L : List Loc} {k n : Nat} (h : s.sameButNew s' L k n) (hL : ∀ q ∈ L, s.heap.size ≤ q.base) : s.sameButNew s' [] k n := by
  obtain ⟨h1, h2, h3, h4, h5, h6⟩ := h
  refine ⟨h1, h2, h3, h4, h5, fun a c hc => ?_⟩
  obtain ⟨c', g1, g2, g3, g4⟩ := h6 a c hc
  refine ⟨c', g1, g2, g3, fun i _ => g4 i (fun hm => ?_)⟩
  have e1 : s.heap.size ≤ a := hL _ hm
  exact absurd (Array.getElem?_eq_some_iff.mp hc).1 (Nat.not_lt.mpr e1)
section Ent
variable {s : State} {b : Nat}
/-- addresses ahead of all: the script, the texts -/
def adL (b : Nat) (adK : Nat → Nat) (k : Nat) : Nat := if k = 1999 then b else adK (k - 1000)
theorem ent_cls (hts : ∀ w ∈ lw_tbl, w.before #[Value.ref b] s = true) : ∃ D : va_G, va_K D vwCl [] s := by
  have h : ∀ k : Nat, ∃ r : ClassId × (Nat → Nat), ∀ q, vwCl[k]? = some q → u_Kn s q.1 q.2.1 q.2.2 r.1 r.2 := by
    intro k
    cases hk : vwCl[k]? with
    | none => exact ⟨(0, fun _ => 0), fun q hq => by cases hq⟩
    | some q =>
      obtain ⟨C, T, N⟩ := q
      obtain ⟨cC, iS, hKn⟩ := u_known (C := C) (T := T) (N := N) (n := N) (ws := TG) (fun w hw => hts w (List.mem_filter.mp hw).1) (cls_ok hk).1 (hts _ (fl_in _ (List.mem_of_getElem? hk)))
      exact ⟨(cC, iS), fun q hq => by cases hq; exact hKn⟩
  obtain ⟨f, hf⟩ := Classical.axiomOfChoice h
  exact ⟨(fun k => (f k).1, fun k => (f k).2), hf, fun k q hq => by simp at hq⟩
theorem ent_ext (hts : ∀ w ∈ lw_tbl, w.before #[Value.ref b] s = true) (hgv : (Jvm.Cond.and given_1 narrow_1).before #[Value.ref b] s = true) : ∃ adK : Nat → Nat, pmExt (adL b adK) (fun q : Nat => s.heap.size ≤ q) s s.heap := by
  have hs : ∀ w ∈ fcL, w.before #[Value.ref b] s = true := flat_of_before _ hgv
  have hnA : ∀ a : Nat, a < s.heap.size → ¬ (fun q : Nat => s.heap.size ≤ q) a := fun a h => Nat.not_le.mpr h
  obtain ⟨adK, adV, hS6, hev⟩ := vk_Sof (args := #[Value.ref b]) (s := s) (N := 6) (tm := tmS) (len := lenPS) (byt := bytPS) (A := fun q : Nat => s.heap.size ≤ q) (by decide) (fun i hi => hs _ (fl_ex i hi)) (fun i hi => hs _ (fl_co i hi)) (fun i hi => hs _ (fl_ar i hi)) (fun i hi => hs _ (fl_le i hi)) (fun i hi j hj => hs _ (fl_el i hi j hj)) (fun i j hi hj hij => (fl_ne i hi j hj hij).imp (fun h => hs _ h) (fun h => hs _ h)) hnA
  have e6 : ∀ i, i < 6 → adL b adK (1000 + i) = adK i := fun i hi => by
    unfold adL
    rw [if_neg (by omega), Nat.add_sub_cancel_left]
  refine ⟨adK, vx_Zqof (hts _ fl_us.1) (hts _ fl_us.2.1) (hs _ fl_us.2.2) hnA, vx_Zqof (hts _ fl_ss.1) (hts _ fl_us.2.1) (hs _ fl_ss.2) hnA, ⟨adV, fun i hi => ?_, fun i j hi hj e => ?_⟩, fun q hq => ?_, ⟨va_Zof (hts _ fl_cs.1) (hts _ fl_cs.2.1) (va_eqi (hs _ fl_cs.2.2)) hnA, vx_Zqof (hts _ fl_sf.1) (hts _ fl_sf.2.1) (hs _ fl_sf.2.2) hnA⟩, fun q hq => va_Nw.of rfl (hts _ (fl_nt q hq)), fun w hw => va_Nw.of (TX_onT hw) (hts w (List.mem_filter.mp hw).1)⟩
  · have h := hS6.1 i hi
    rw [← e6 i hi] at h
    exact h
  · have e : adL b adK (1000 + i) = adL b adK (1000 + j) := e
    rw [e6 i hi, e6 j hj] at e
    exact hS6.2 i j hi hj e
  · obtain ⟨h1, h2⟩ := fl_sr q hq
    rw [e6 _ h2]
    refine vk_R.of (hts _ h1) ?_
    rcases fl_eq q hq with ⟨-, h3⟩ | h3
    · rw [← h3]; exact hev _ h2
    · exact va_eqR (hs _ h3) (hev _ h2)
end Ent
