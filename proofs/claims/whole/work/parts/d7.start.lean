/-! the law from its entry on -/
section Lnw
variable {gg : Ly → Gm} {xs : Nat → Int32} {N : Nat} {Q : Qt} {pc len f ci : Nat} {lv : Lv} {st r : List Value} {L : Ly} {X : HX} {Y : HY} {z : Nat × Nat} {tg : List Nat} {kc x : Int32} {sl : List Sk}
theorem l_new (hg : ∀ L, Gmono (gg L)) (n m : Nat) (L2 : Ly) (z2 : Nat × Nat) (hc : cdAt (gg L).1 pc = some (.new f, len, tg, kc)) (hE : (gg L).2.2.2.1 pc = none) (hN : (gg L).2.2.2.2.1 f = some (ci, sl)) (hb : (Nat.ble (z.1 + 1) (gMc (gg L)) && Nat.ble (z.2 + sl.length) (gMs (gg L)) && Nat.ble L.length 999 && lv.all (okA L.length) && st.all (fun v => okA L.length (some v)) && L.all (okB L.length)) = true) (hn : pc + len = n) (hm : L.length = m) (h2 : L ++ [.inl (ci, sl)] = L2) (hz : (z.1 + 1, z.2 + sl.length) = z2) (k : WPl gg xs N Q n lv (.ref m :: st) L2 (upR X m) (upR Y m) z2) : WPl gg xs N Q pc lv st L X Y z := by
  subst hn; subst h2; subst hz; subst hm
  exact WPl.stp hg (by simp only [stepP, hc, hE, hN, hb, goB]; exact k)
theorem l_newa (hg : ∀ L, Gmono (gg L)) (n m : Nat) (L2 : Ly) (z2 : Nat × Nat) {t : ArrayType} {tag : Nat} (hc : cdAt (gg L).1 pc = some (.newarray t, len, tg, kc)) (hT : arT t = some tag) (hb : (Nat.ble (z.1 + 1) (gMc (gg L)) && Nat.ble L.length 999 && lv.all (okA L.length) && r.all (fun v => okA L.length (some v)) && L.all (okB L.length)) = true) (hn : pc + len = n) (hm : L.length = m) (h2 : L ++ [.inr (tag, x.toNatClampNeg)] = L2) (hz : (z.1 + 1, z.2 + x.toNatClampNeg) = z2) (h3 : ¬ x < 0) (h4 : Nat.ble x.toNatClampNeg 5000 = true) (h5 : Nat.ble (z.2 + x.toNatClampNeg) (gMs (gg L)) = true) (k : WPl gg xs N Q n lv (.ref m :: r) L2 (upR X m) (upR Y m) z2) : WPl gg xs N Q pc lv (.int x :: r) L X Y z := by
  subst hn; subst h2; subst hz; subst hm
  exact WPl.stp hg (by simp only [stepP, hc, hT]; exact ⟨h3, Nat.le_of_ble_eq_true h4, Nat.le_of_ble_eq_true h5, by rw [hb]; exact k⟩)
end Lnw
theorem mg0_all {α : Type} {X X2 : Nat → α} : mg [0] 1 X X2 = X2 := by
  funext a
  by_cases h : a < 1
  · have e : a = 0 := by omega
    subst e
    exact mg_in 0 (by omega) (by decide) (by decide)
  · exact mg_new h (by show 1 + (a - 1) = a; omega)
theorem sCf : ∀ c, c < nC8 false → (selC false).getD c 0 = c ∧ c < 79 := by decide +kernel
theorem s9f : ∀ c, c < 29 → sel9.getD c 0 = 79 + c := by decide +kernel
theorem st_8 {α : Type} [OfNat α 0] {X' X'' : Nat → Nat → α} {c : Nat} (hc : c < nC8 false) : sb (selC false) (upR (mg [79] 80 (upR X' 79) X'') 108) c = X' c := by
  obtain ⟨e, h⟩ := sCf c hc
  show upR (mg [79] 80 (upR X' 79) X'') 108 ((selC false).getD c 0) = X' c
  rw [e, upR_out (by omega), mg_out (by omega) (by simp; omega), upR_out (by omega)]
theorem st_9 {α : Type} [OfNat α 0] {X' X'' : Nat → Nat → α} {c : Nat} (hc : c < 29) : sb sel9 (upR (mg [79] 80 (upR X' 79) X'') 108) c = X'' c := by
  show upR (mg [79] 80 (upR X' 79) X'') 108 (sel9.getD c 0) = X'' c
  rw [s9f c hc, upR_out (by omega)]
  by_cases h : c = 0
  · subst h
    exact mg_in 0 (by omega) (by decide) (by decide)
  · exact mg_new (by omega) (by show 1 + (79 + c - 80) = c; omega)
theorem st_law {xs : Nat → Int32} {N : Nat} {Q : Qt} {X : HX} {Y : HY} (hN : N ≤ 3072) (hQ : ∀ L X Y, Q (.inl (some (.int (nI 1)))) L X Y) : WPl ggL xs N Q 0 [some (.ref 1999), none, none, none, none, none, none] [] [] X Y (0, 0) := by
  have h : rwOk [(0, .new 8, 3, [], 0), (3, .dup, 1, [], 0), (4, .invokespecial 93, 3, [], 0), (7, .astore_n 1, 1, [], 0), (8, .new 94, 3, [], 0), (11, .dup, 1, [], 0), (12, .invokespecial 96, 3, [], 0), (15, .astore_n 2, 1, [], 0), (16, .iconst 1, 1, [], nI 1), (17, .newarray .long, 2, [], 0), (19, .astore_n 3, 1, [], 0), (20, .iconst 0, 1, [], nI 0), (21, .istore 4, 2, [], 0)] = true := by decide +kernel
  refine l_new ggL_m 3 0 Wi76 (1, 18) (show cdAt (ggL []).1 0 = _ from rw_at h 0 rfl) rfl rfl rfl rfl rfl rfl rfl ?_
  refine l_pure ggL_m 4 [.ref 0, .ref 0] (show cdAt (ggL Wi76).1 3 = _ from rw_at h 1 rfl) rfl rfl ?_
  refine r_callG (T := tX8_init) (na := 1) (c1 := 78) (c2 := 6636) (rc := some 8) (sel := [0]) (Lc := Wi76) (Lc2 := LX8 false) (L2 := LX8 false) (rk := 0) (rw_at h 2 rfl) rfl rfl (by decide +kernel) ⟨Nat.le_of_ble_eq_true rfl, Nat.le_of_ble_eq_true rfl⟩ ?_
  show tX8_init [.ref 0] Wi76 _ _ _
  refine X8_init_s (fun X' Y' h8 => ⟨rfl, Or.inl ⟨rfl, ?_⟩⟩)
  rw [show mg [0] Wi76.length (upR X 0) X' = X' from mg0_all, show mg [0] Wi76.length (upR Y 0) Y' = Y' from mg0_all]
  refine r_stor 8 [some (.ref 1999), some (.ref 0), none, none, none, none, none] (v := .ref 0) (st := []) (rw_at h 3 rfl) rfl rfl ?_
  refine l_new ggL_m 11 79 (LX8 false ++ Wi126) (80, 6702) (show cdAt (ggL (LX8 false)).1 8 = _ from rw_at h 4 rfl) rfl rfl (by decide +kernel) rfl (by decide +kernel) rfl rfl ?_
  refine l_pure ggL_m 12 [.ref 79, .ref 79] (show cdAt (ggL (LX8 false ++ Wi126)).1 11 = _ from rw_at h 5 rfl) rfl rfl ?_
  refine r_callG (T := tX9_init) (na := 1) (c1 := 28) (c2 := 7854) (rc := some 9) (sel := [79]) (Lc := Wi126) (Lc2 := LX9) (L2 := L108) (rk := 0) (rw_at h 6 rfl) rfl rfl (by decide +kernel) ⟨Nat.le_of_ble_eq_true rfl, Nat.le_of_ble_eq_true rfl⟩ ?_
  show tX9_init [.ref 0] Wi126 _ _ _
  refine X9_init_s (fun i => ?_) (fun X'' Y'' h9 => ⟨rfl, Or.inl ⟨rfl, ?_⟩⟩)
  · show upR X' 79 79 i = 0
    rw [upR_eq]
  have e80 : (LX8 false ++ Wi126).length = 80 := by decide +kernel
  rw [e80]
  refine r_stor 16 [some (.ref 1999), some (.ref 0), some (.ref 79), none, none, none, none] (v := .ref 79) (st := []) (rw_at h 7 rfl) rfl rfl ?_
  refine l_pure ggL_m 17 [.int (nI 1)] (show cdAt (ggL L108).1 16 = _ from rw_at h 8 rfl) rfl rfl ?_
  refine l_newa ggL_m 19 108 (LLw false) (109, 14557) (show cdAt (ggL L108).1 17 = _ from rw_at h 9 rfl) rfl (by decide +kernel) rfl (by decide +kernel) (by decide +kernel) rfl (by decide) rfl rfl ?_
  refine r_stor 20 [some (.ref 1999), some (.ref 0), some (.ref 79), some (.ref 108), none, none, none] (v := .ref 108) (st := []) (rw_at h 10 rfl) rfl rfl ?_
  refine l_pure ggL_m 21 [.int (nI 0)] (show cdAt (ggL (LLw false)).1 20 = _ from rw_at h 11 rfl) rfl rfl ?_
  refine r_stor 23 (lvL 0 none none) (v := .int (nI 0)) (st := []) (rw_at h 12 rfl) rfl rfl ?_
  exact lp hN hQ 512 0 false none none _ _ (s00, t00, -1, l00, none) 109 14557 (by omega) (by omega) (Or.inl rfl) (Or.inl rfl) (h8.eq (fun c hc => ⟨st_8 hc, st_8 hc⟩)) (h9.eq (fun c hc => ⟨st_9 hc, st_9 hc⟩)) (by omega) (by omega)
