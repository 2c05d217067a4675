/-! a call's step is sound -/
theorem exA_trans {ad2 ad ad0 : Nat → Nat} {ca2 ca ca0 : Nat → ClassId} {n0 n n2 : Nat} (h0 : n0 ≤ n) (h1 : n ≤ n2) (a : exA ad ad0 ca ca0 n0 n) (b : exA ad2 ad ca2 ca n n2) : exA ad2 ad0 ca2 ca0 n0 n2 :=
  ⟨fun k hk => (b.1 k (hk.imp (fun q => Nat.lt_of_lt_of_le q h0) id)).trans (a.1 k hk), fun k hk => (b.2.1 k (Nat.lt_of_lt_of_le hk h0)).trans (a.2.1 k hk), fun e => by
    obtain ⟨rfl, rfl⟩ := b.2.2 (by omega)
    exact a.2.2 (by omega)⟩
theorem exA_refl {ad : Nat → Nat} {ca : Nat → ClassId} {n : Nat} : exA ad ad ca ca n n := ⟨fun _ _ => rfl, fun _ _ => rfl, fun _ => ⟨rfl, rfl⟩⟩
theorem cv_ok {ad ad2 : Nat → Nat} {n : Nat} (h : ∀ k, k < n ∨ 1000 ≤ k → ad2 k = ad k) {v : Value} (hv : okA n (some v) = true) : cv ad2 v = cv ad v := by
  cases v with
  | ref a =>
    simp only [okA, Bool.or_eq_true] at hv
    simp only [cv]
    rw [h a (hv.elim (fun q => Or.inl (Nat.lt_of_succ_le (Nat.le_of_ble_eq_true q))) (fun q => Or.inr (Nat.le_of_ble_eq_true q)))]
  | _ => rfl
theorem lvOk_ad {ad ad2 : Nat → Nat} {n nL : Nat} {ls : Array Slot} {lv : Lv} (h : ∀ k, k < n ∨ 1000 ≤ k → ad2 k = ad k) (ho : lv.all (okA n) = true) (hl : lvOk ad ls nL lv) : lvOk ad2 ls nL lv := by
  refine ⟨hl.1, hl.2.1, hl.2.2.1, fun i v hv => ?_⟩
  have hm : some v ∈ lv := by
    unfold ldv at hv
    cases h9 : lv[i]? with
    | none => rw [h9] at hv; cases hv
    | some o =>
      rw [h9] at hv
      have : o = some v := hv
      exact this ▸ List.mem_of_getElem? h9
  rw [cv_ok h (List.all_eq_true.mp ho _ hm)]
  exact hl.2.2.2 i v hv
theorem st_ad {ad ad2 : Nat → Nat} {n : Nat} {st : List Value} (h : ∀ k, k < n ∨ 1000 ≤ k → ad2 k = ad k) (ho : ∀ v ∈ st, okA n (some v) = true) : st.map (cv ad2) = st.map (cv ad) := List.map_congr_left (fun v hv => cv_ok h (ho v hv))
def ceStat (ce : Ce) : Prop := match ce.2.2.2.2.1 with
  | none => True
  | some (Lr, sel, Lc, Lc2, L2) => selOk sel Lr Lc = true ∧ selBk sel Lr Lc2 L2 = true
theorem retK_of {rk : Nat} {v : Option Value} {K : List Value → Prop} (h : retK rk (.inl v) K) : K v.toList := by
  unfold retK at h
  split at h
  · obtain ⟨e, k⟩ := h
    cases e
    exact k
  · obtain ⟨x, e, k⟩ := h
    cases e
    exact k
  · obtain ⟨x, e, k⟩ := h
    cases e
    exact k
theorem noRef_cv {ad : Nat → Nat} {v : Option Value} (h : noRef v) : v.toList.map (cv ad) = v.toList := by
  rcases h with rfl | ⟨x, rfl⟩ | ⟨x, rfl⟩ <;> rfl
section SndCall
variable {p : Program} {l : Launch} {e : Env} {R : Room} {s : State} {m : MethodId} {args : Array Value} {below : List Frame} {meth : Method} {c : Code} {D : va_G} {nL mc ms n0 : Nat} {A : Nat → Prop} {ad0 : Nat → Nat} {ca0 : Nat → ClassId} {Q : Qt} {g : Gm}
/-- a run of a callee, and what follows: the common end of both kinds of call -/
theorem snd_run {pc m1 m2 : Nat} {ad' : Nat → Nat} {ca' : Nat → ClassId} {H : Heap} {locs : List Loc} {ls : Array Slot} {cells slots : Nat} {st0 rest : List Value} {Q1 : Qt} {L' : Ly} {A1 : Nat → Prop}
    (hout : ∀ x ∈ c.exceptionTable.toList, covers x pc = false) (hlocks : meth.locks = false)
    (hr : vx_Run p l e R s m args below meth c H locs cells slots m1 m2 (F0 m pc ls st0) rest (pmQc D ad' ca' L'.length A1 Q1 #[]) (pmXC D ad' ca' L'.length A1 Q1) A1)
    (hS : va_S A s.heap H locs) (hA1 : ∀ q, A1 q → A q)
    (hc : cells + m1 ≤ mc) (hs : slots + m2 ≤ ms)
    (kr : ∀ (v : Option Value) (L3 : Ly) (X3 : HX) (Y3 : HY) (H1 : Heap) (locs1 : List Loc) (t : State), t.heap = H1 → s.vm.Alike t.vm → noRef v → Q1 (.inl v) L3 X3 Y3 → pmEnd D ad' ca' L'.length A1 L3 X3 Y3 t → (∀ q : Nat, q < H.size → ¬ A1 q → H1[q]? = H[q]?) → va_S A s.heap H1 locs1 →
      W p l e R s m args below meth c H1 locs1 (cells + m1) (slots + m2) (vx_MQ below (pmQc D ad0 ca0 n0 A Q) (pmXC D ad0 ca0 n0 A Q) args s mc ms A) (F0 m (pc + 3) ls (v.toList ++ rest)))
    (kx : ∀ (E : String) (L3 : Ly) (X3 : HX) (Y3 : HY) (H1 : Heap) (locs1 : List Loc) (t : State), t.heap = H1 → s.vm.Alike t.vm → Q1 (.inr E) L3 X3 Y3 → pmEnd D ad' ca' L'.length A1 L3 X3 Y3 t → (∀ q : Nat, q < H.size → ¬ A1 q → H1[q]? = H[q]?) → va_S A s.heap H1 locs1 → ∃ (L : Ly) (X : HX) (Y : HY), Q (.inr E) L X Y ∧ pmEnd D ad0 ca0 n0 A L X Y t) :
    W p l e R s m args below meth c H locs cells slots (vx_MQ below (pmQc D ad0 ca0 n0 A Q) (pmXC D ad0 ca0 n0 A Q) args s mc ms A) (F0 m pc ls st0) := by
  intro T hT X
  rcases hr T hT X with ⟨v, st₀, t, T', Lc, h0, X', hL, e1, e2, ⟨⟨v2, L2, X2, Y2, ho, hnr, hq, hend⟩, hF⟩, st⟩ | ⟨q, st₀, t, T', Lc, E, ce, h0, X', hL, e1, e2, ⟨⟨L2, X2, Y2, hq, hend⟩, hF⟩, hce, hcv, hcl, st⟩
  · cases ho
    obtain ⟨k1, k2, k3⟩ := vx_keep h0 e1 hS (fun q _ h => hA1 q h) hA1 hL hF
    obtain ⟨t2, a1, b1⟩ := kr v L2 X2 Y2 T'.heap (locs ++ Lc) t e1.symm (by rw [← e2]; exact X'.warmed.alike) hnr hq hend k2 k3 T' rfl X'
    exact ⟨t2, st t2 a1, b1⟩
  · obtain ⟨k1, k2, k3⟩ := vx_keep h0 e1 hS (fun q _ h => hA1 q h) hA1 hL hF
    have hal : s.vm.Alike t.vm := by rw [← e2]; exact X'.warmed.alike
    obtain ⟨L, X9, Y9, hQ, hE9⟩ := kx E L2 X2 Y2 T'.heap (locs ++ Lc) t e1.symm hal hq hend k2 k3
    have hw : vx_W p l e R s m args below meth c T'.heap (locs ++ Lc) (cells + m1) (slots + m2) (vx_MQ below (pmQc D ad0 ca0 n0 A Q) (pmXC D ad0 ca0 n0 A Q) args s mc ms A) (F0 m pc ls rest) q :=
      vx_out hout hlocks (by rw [e1]; exact hce) hcv hcl (fun t9 ht9 hal9 => ⟨⟨L, X9, Y9, hQ, by
        obtain ⟨ad9, ca9, f1, f2, f3, f4, f5⟩ := hE9
        exact ⟨ad9, ca9, f1, f2, by rw [ht9, e1]; exact f3, va_K.moved hal9 (va_K.moved hal.symm f4), f5⟩⟩, k3.F ht9⟩) k3.2.2 hc hs
    obtain ⟨t2, a1, b1⟩ := hw T' rfl X'
    exact ⟨t2, st.trans a1, b1⟩
theorem rcOk_sel {rc : Option Nat} {av : List Value} {L Lc : Ly} {sel : List Nat} (hs : selOk sel L Lc = true) (hl : L.length ≤ 1000) (ho : ∀ v ∈ av, okV sel v = true) (h : rcOk rc av L = true) : rcOk rc (av.map (rnV sel)) Lc = true := by
  obtain ⟨s1, s2, s3, s4⟩ := selOk_spec hs
  cases rc with
  | none => rfl
  | some ci =>
    unfold rcOk at h
    simp only at h
    split at h
    · rename_i b As
      split at h
      · rename_i ci2 sl hL
        have hb : okV sel (.ref b) = true := ho _ List.mem_cons_self
        have hblt : b < 1000 := Nat.lt_of_lt_of_le (lt_of_get hL) hl
        have hm : b ∈ sel := by
          simp only [okV, Bool.or_eq_true, decide_eq_true_eq] at hb
          rcases hb with q | q
          · exact absurd (Nat.lt_of_lt_of_le hblt q) (Nat.lt_irrefl _)
          · simpa using q
        obtain ⟨g1, g2⟩ := get_of_idx hm
        have h5 := (s3 _ g1).2
        rw [g2, hL] at h5
        obtain ⟨s9, hs9, hr9⟩ := Option.map_eq_some_iff.mp h5.symm
        cases s9 with
        | inl o =>
          obtain ⟨c9, l9⟩ := o
          cases hr9
          simp only [rcOk, List.map_cons, rnV, if_pos hblt, hs9]
          exact h
        | inr q9 => cases hr9
      · cases h
    · cases h
theorem rnV_cv {ad : Nat → Nat} {sel : List Nat} (hl : sel.length ≤ 1000) {v : Value} (hv : okV sel v = true) : cv (fun j => ad (selF sel j)) (rnV sel v) = cv ad v := by
  cases v with
  | ref a =>
    simp only [okV, Bool.or_eq_true, decide_eq_true_eq] at hv
    by_cases ha : a < 1000
    · have hm : a ∈ sel := by
        rcases hv with q | q
        · exact absurd (Nat.lt_of_lt_of_le ha q) (Nat.lt_irrefl _)
        · simpa using q
      obtain ⟨g1, g2⟩ := get_of_idx hm
      simp only [rnV, cv, if_pos ha, selF]
      rw [if_pos (by omega), g2]
    · simp only [rnV, cv, if_neg ha, selF]
  | _ => rfl
theorem snd_call {pc : Nat} {ce : Ce} {lv : Lv} {st : List Value} {L : Ly} {X : HX} {Y : HY} {z : Nat × Nat} (hce : g.2.2.1 pc = some ce) (hcs : CallSnd p l e R s m args below meth c D nL pc ce.1 ce.2.1 ce.2.2.2.1.1 ce.2.2.2.1.2 ce.2.2.2.2.2) (hso : ceStat ce)
    (hRc : R.cells = mc) (hRs : R.slots = ms) (hmc : gMc g = mc) (hms : gMs g = ms) (hE : pmExt ad0 A s s.heap) (hA : ∀ q, s.heap.size ≤ q → A q) (hout : ∀ x ∈ c.exceptionTable.toList, covers x pc = false) (hlocks : meth.locks = false)
    (k : pmCall g Q (pmPs p l e R s m args below meth c D nL mc ms A ad0 ca0 n0 Q) pc 3 lv st L X Y z) : pmPs p l e R s m args below meth c D nL mc ms A ad0 ca0 n0 Q pc lv st L X Y z := by
  intro ad ca H locs ls hex hn0 hK hP hD hS hlv
  unfold pmCall at k
  rw [hce] at k
  obtain ⟨hchk, k⟩ := goB_t k
  simp only [Bool.and_eq_true] at hchk
  obtain ⟨⟨⟨⟨⟨hrc, hlen⟩, hc1⟩, hc2⟩, hcat⟩, hck⟩ := hchk
  have hlen := Nat.le_of_ble_eq_true hlen
  have hc1 := Nat.le_of_ble_eq_true hc1
  have hc2 := Nat.le_of_ble_eq_true hc2
  have hcat := Nat.le_of_ble_eq_true hcat
  rw [hmc] at hc1
  rw [hms] at hc2
  have hAH : ∀ q, H.size ≤ q → A q := fun q h => hA q (Nat.le_trans hS.1 h)
  have hE1 : pmExt ad A s s.heap := hE.ad (fun k hk => hex.1 k (Or.inr hk))
  have hst : st.map (cv ad) = ((((st.take ce.2.1).reverse).map (cv ad)).reverse) ++ (st.drop ce.2.1).map (cv ad) := by
    rw [← List.map_reverse, List.reverse_reverse, ← List.map_append, List.take_append_drop]
  have hcat2 : ((((st.drop ce.2.1).map (cv ad))).map fun v => v.category).sum ≤ 8 := by rw [cv_sum]; exact hcat
  obtain ⟨T, n, rk, cs, so, rc⟩ := ce
  cases so with
  | none =>
    have hcs := hcs ad ca (st.take n).reverse L X Y _ ((st.drop n).map (cv ad)) H locs z.1 z.2 ls k (by simp; exact Nat.min_eq_left hlen) hrc hK hP (hD.weaken (fun _ _ _ _ => trivial)) (fun U hW => hE1.to hW (fun a h1 h2 => hS.2.1 a h1 h2) (fun q hq => by
      rcases hq with ⟨k9, e9, hk9⟩ | hq
      · exact hD.2 _ _ hk9
      · exact hAH q hq)) hlv.2.1 hcat2 (by rw [hRc]; exact hc1) (by rw [hRs]; exact hc2)
    rw [hst]
    refine snd_run hout hlocks hcs hS (fun q hq => by
      rcases hq with ⟨k9, e9, hk9⟩ | hq
      · exact hD.2 _ _ hk9
      · exact hAH q hq) hc1 hc2 ?_ ?_
    · intro v L3 X3 Y3 H1 locs1 t ht hal hnr hq hend hk1 hS1
      obtain ⟨rfl, hq⟩ := hq
      rcases hq with hq | ⟨E, e9, -⟩
      · have hq := retK_of hq
        obtain ⟨ad9, ca9, f1, f2, f3, f4, f5⟩ := hend
        obtain ⟨rfl, rfl⟩ := f1.2.2 rfl
        have h9 := hq _ _ H1 locs1 ls hex hn0 hK (by rw [← ht]; exact f3) (f5.weaken (fun k9 q9 h9 hA9 => by
          rcases hA9 with ⟨k8, e8, hk8⟩ | hA9
          · exact hD.2 k8 (q9.1, e8) hk8
          · exact hAH _ hA9)) hS1 hlv
        rw [List.map_append, noRef_cv hnr] at h9
        exact h9
      · cases e9
    · intro E L3 X3 Y3 H1 locs1 t ht hal hq hend hk1 hS1
      obtain ⟨rfl, hq⟩ := hq
      rcases hq with hq | ⟨E, e9, hq⟩
      · exfalso
        unfold retK at hq
        split at hq
        · cases hq.1
        · obtain ⟨x, e9, -⟩ := hq; cases e9
        · obtain ⟨x, e9, -⟩ := hq; cases e9
      · cases e9
        obtain ⟨ad9, ca9, f1, f2, f3, f4, f5⟩ := hend
        refine ⟨_, X3, Y3, hq, ad9, ca9, exA_trans hn0 (Nat.le_refl _) hex f1, Nat.le_trans hn0 f2, f3, f4, f5.weaken (fun k9 q9 h9 hA9 => by
          rcases hA9 with ⟨k8, e8, hk8⟩ | hA9
          · exact hD.2 k8 (q9.1, e8) hk8
          · exact hAH _ hA9)⟩
  | some q =>
    obtain ⟨Lr, sel, Lc, Lc2, L2⟩ := q
    obtain ⟨hL, k⟩ := k
    subst hL
    obtain ⟨hso1, hso2⟩ := hso
    simp only [ceChk, Bool.and_eq_true, Bool.or_eq_true] at hck
    obtain ⟨hck1, hck2⟩ := hck
    have hok : ∀ v ∈ (st.take n).reverse, okV sel v = true := fun v hv => List.all_eq_true.mp hck1 v (List.mem_reverse.mp hv)
    obtain ⟨s1, s2, s3, s4⟩ := selOk_spec hso1
    obtain ⟨b1, b2, b3, b3c, b4, b5⟩ := selBk_spec hso2
    have hw := sel_world (D := D) (ad := ad) (ca := ca) (X := X) (Y := Y) hso1
    have hPc := hP.by _ hw.1
    have hDc : va_D (fun _ => True) (cW (fun j => ad (selF sel j)) (fun j => ca (sel.getD j 0)) Lc (sb sel X) (sb sel Y)) := (hD.by _ hw.1 (fun i j hi hj hij => by
      rw [cW_len] at hi hj
      have h1 := idx_of_get s4 (k := i) (by omega)
      have h2 := idx_of_get s4 (k := j) (by omega)
      rw [hij] at h1
      omega)).weaken (fun _ _ _ _ => trivial)
    have hKc := va_K_of hK hw.2
    have hfree : ∀ q, va_A (cW (fun j => ad (selF sel j)) (fun j => ca (sel.getD j 0)) Lc (sb sel X) (sb sel Y)) H.size q → A q := fun q hq => by
      rcases hq with ⟨k9, e9, hk9⟩ | hq
      · exact hD.2 _ _ (hw.1 k9 _ hk9)
      · exact hAH q hq
    have hav : ((st.take n).reverse.map (rnV sel)).map (cv (fun j => ad (selF sel j))) = (st.take n).reverse.map (cv ad) := by
      rw [List.map_map]
      exact List.map_congr_left (fun v hv => rnV_cv s2 (hok v hv))
    have hcs := hcs (fun j => ad (selF sel j)) (fun j => ca (sel.getD j 0)) ((st.take n).reverse.map (rnV sel)) Lc (sb sel X) (sb sel Y) _ ((st.drop n).map (cv ad)) H locs z.1 z.2 ls k (by simp; exact Nat.min_eq_left hlen) (rcOk_sel hso1 (by omega) hok hrc) hKc hPc hDc (fun U hW => (hE1.to hW (fun a h1 h2 => hS.2.1 a h1 h2) hfree).ad (fun k9 hk9 => by simp only [selF]; rw [if_neg (by omega)])) hlv.2.1 hcat2 (by rw [hRc]; exact hc1) (by rw [hRs]; exact hc2)
    rw [hav] at hcs
    rw [hst]
    have hback : ∀ (X3 : HX) (Y3 : HY) (H1 : Heap) (t : State), t.heap = H1 → s.vm.Alike t.vm → pmEnd D (fun j => ad (selF sel j)) (fun j => ca (sel.getD j 0)) Lc.length (va_A (cW (fun j => ad (selF sel j)) (fun j => ca (sel.getD j 0)) Lc (sb sel X) (sb sel Y)) H.size) Lc2 X3 Y3 t → (∀ q : Nat, q < H.size → ¬ va_A (cW (fun j => ad (selF sel j)) (fun j => ca (sel.getD j 0)) Lc (sb sel X) (sb sel Y)) H.size q → H1[q]? = H[q]?) →
        ∃ (ad2 : Nat → Nat) (ca2 : Nat → ClassId), exA ad2 ad ca2 ca L.length L2.length ∧ va_P D vwCl (cW ad2 ca2 L2 (mg sel L.length X X3) (mg sel L.length Y Y3)) H1 ∧ va_K D vwCl (cT ca2 L2) s ∧ va_D A (cW ad2 ca2 L2 (mg sel L.length X X3) (mg sel L.length Y Y3)) := by
      intro X3 Y3 H1 t ht hal hend hk1
      obtain ⟨ad9, ca9, f1, f2, f3, f4, f5⟩ := hend
      exact sel_back hso1 hso2 hP hD hAH (hck2.imp (fun q => Nat.eq_of_beq_eq_true q) (fun q => fun s9 hs9 => List.all_eq_true.mp q.2 s9 hs9)) hk1 f1 (by rw [← ht]; exact f3) (va_K.moved hal.symm f4) hK f5
    refine snd_run hout hlocks hcs hS hfree hc1 hc2 ?_ ?_
    · intro v L3 X3 Y3 H1 locs1 t ht hal hnr hq hend hk1 hS1
      obtain ⟨rfl, hq⟩ := hq
      rcases hq with hq | ⟨E, e9, -⟩
      · have hq := retK_of hq
        obtain ⟨ad2, ca2, g1, g2, g3, g4⟩ := hback X3 Y3 H1 t ht hal hend hk1
        have hlen2 : L.length ≤ L2.length := by omega
        have hcond : ad2 = ad ∨ (lv.all (okA L.length) = true ∧ ∀ v ∈ st, okA L.length (some v) = true) := by
          rcases hck2 with q | q
          · exact Or.inl (g1.2.2 (by have := Nat.eq_of_beq_eq_true q; omega)).1
          · exact Or.inr ⟨q.1.1, fun v hv => List.all_eq_true.mp q.1.2 v hv⟩
        have hlv2 : lvOk ad2 ls nL lv := hcond.elim (fun q => q ▸ hlv) (fun q => lvOk_ad g1.1 q.1 hlv)
        have hst2 : (st.drop n).map (cv ad2) = (st.drop n).map (cv ad) := hcond.elim (fun q => by rw [q]) (fun q => st_ad g1.1 (fun v hv => q.2 v (List.mem_of_mem_drop hv)))
        have h9 := hq ad2 ca2 H1 locs1 ls (exA_trans hn0 hlen2 hex g1) (Nat.le_trans hn0 hlen2) g3 g2 g4 hS1 hlv2
        rw [List.map_append, noRef_cv hnr, hst2] at h9
        exact h9
      · cases e9
    · intro E L3 X3 Y3 H1 locs1 t ht hal hq hend hk1 hS1
      obtain ⟨rfl, hq⟩ := hq
      rcases hq with hq | ⟨E, e9, hq⟩
      · exfalso
        unfold retK at hq
        split at hq
        · cases hq.1
        · obtain ⟨x, e9, -⟩ := hq; cases e9
        · obtain ⟨x, e9, -⟩ := hq; cases e9
      · cases e9
        obtain ⟨ad2, ca2, g1, g2, g3, g4⟩ := hback X3 Y3 H1 t ht hal hend hk1
        exact ⟨_, _, _, hq, ad2, ca2, exA_trans hn0 (by omega) hex g1, by omega, by rw [ht]; exact g2, va_K.moved hal g3, g4⟩
end SndCall
