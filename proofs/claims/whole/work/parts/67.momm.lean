/-! rooms, MOMENTS found, by the reference -/
def PlR (m G : Nat) (R : Nat → Nat) (le fp lp : Nat → Nat) : Prop := ∀ g, g < G → (fp g < m ∧ Bs (R g) (le (fp g)) ∧ ∀ i, i < fp g → ¬ Bs (R g) (le i)) ∧ lp g < m ∧ Bs (R g) (le (lp g)) ∧ ∀ i, lp g < i → i < m → ¬ Bs (R g) (le i)
section RoomsM
variable {Q : Qt} {r : Ly} {X : HX} {Y : HY} {m n G : Nat} {R le fp lp : Nat → Nat}
theorem X9_rooms_s (h10 : X 1 0 = nI G) (h16 : X 0 16 = nI m) (hm : m ≤ 9) (hR : RwV X n R) (hGn : G ≤ n) (hG : G ≤ 9) (hlt : ∀ p, p < m → le p < m) (hL : ∀ p, p < m → X 13 p = nI (le p)) (hP : PlR m G R le fp lp) (k : ∀ X' W (mx : Int), (∀ c, c ≠ 27 → X' c = X c) → rmD (fun g => g < G) fp lp W → (∀ g, g < G → X' 27 g = nI (W g) ∧ W g < 9) → -1 ≤ mx → mx < 9 → (∀ g, g < G → (W g : Int) ≤ mx) → (mx = -1 ∨ ∃ g, g < G ∧ (W g : Int) = mx) → Q (.inl (some (.int (zI mx)))) (LX9 ++ r) X' Y) : tX9_giveRooms [.ref 0] (LX9 ++ r) X Y Q := by
  apply tX9_giveRooms_i
  have H : ∀ t p X' W (mx : Int), p + t = m → (∀ c, c ≠ 27 → X' c = X c) → rmS G fp lp p 0 W → RmV X' 27 G fp p 0 G W → -1 ≤ mx → mx < 9 → (∀ g, asg G fp p 0 g → (W g : Int) ≤ mx) → (mx = -1 ∨ ∃ g, asg G fp p 0 g ∧ (W g : Int) = mx) → hX9_giveRooms_29 Q r (zI mx) (nI p) X' Y := by
    intro t
    induction t with
    | zero =>
      intro p X' W mx hp f1 hS hW b1 b2 b3 b4
      have e : p = m := by omega
      subst e
      have ea : ∀ o, asg G fp p 0 o ↔ o < G := fun o => ⟨fun q => q.1, fun q => ⟨q, Or.inl (hP o q).1.1⟩⟩
      have ef : asg G fp p 0 = fun g => g < G := funext fun o => propext (ea o)
      apply hX9_giveRooms_29_i
      simp (disch := omega) only [m_0, m_L0, m_lt, m_le, m_eq, m_neg, m_in, m_clamp, m_add, m_sub, m_pred, m_mul, m_l, m_i, m_Land, m_Lor, m_and, m_or, m_xor, m_Landn, m_andn, m_LshlP, m_shl, m_LbitP, m_bit, m_cmp0P, m_Lb0, m_Lb1, m_b0, m_b1, Nat.one_mul, f1 0 (by omega), h16]
      refine ⟨fun _ => k X' W mx f1 (ef ▸ hS.1) (fun g hg => ⟨(hW g (by omega)).1 ((ea g).mpr hg), ?_⟩) b1 b2 (fun g hg => b3 g ((ea g).mpr hg)) (b4.imp id (fun ⟨g, q1, q2⟩ => ⟨g, q1.1, q2⟩)), fun h => by omega⟩
      have h1 := hS.2 g ((ea g).mpr hg)
      have := gSz_bd (P := asg G fp p 0) (n := 9)
      omega
    | succ t ih =>
      intro p X' W mx hp f1 hS hW b1 b2 b3 b4
      have hpm : p < m := by omega
      apply hX9_giveRooms_29_i
      simp (disch := omega) only [m_0, m_L0, m_lt, m_le, m_eq, m_neg, m_in, m_clamp, m_add, m_sub, m_pred, m_mul, m_l, m_i, m_Land, m_Lor, m_and, m_or, m_xor, m_Landn, m_andn, m_LshlP, m_shl, m_LbitP, m_bit, m_cmp0P, m_Lb0, m_Lb1, m_b0, m_b1, Nat.one_mul, f1 0 (by omega), h16]
      refine ⟨fun h => by omega, fun _ => ?_⟩
      have G1 : ∀ q i X' W (mx : Int), i + q = G → (∀ c, c ≠ 27 → X' c = X c) → rmS G fp lp p i W → RmV X' 27 G fp p i G W → -1 ≤ mx → mx < 9 → (∀ g, asg G fp p i g → (W g : Int) ≤ mx) → (mx = -1 ∨ ∃ g, asg G fp p i g ∧ (W g : Int) = mx) → hX9_giveRooms_39 Q r (zI mx) (nI p) (nI i) X' Y := by
        intro q
        induction q with
        | zero =>
          intro i X' W mx hi f1 hS hW b1 b2 b3 b4
          have ee : ∀ o, asg G fp (p + 1) 0 o ↔ asg G fp p i o := fun o => ⟨fun q => ⟨q.1, by have := q.2; have := q.1; omega⟩, fun q => ⟨q.1, by have := q.2; have := q.1; omega⟩⟩
          have fin : hX9_giveRooms_29 Q r (zI mx) (nI (p + 1)) X' Y := ih (p + 1) X' W mx (by omega) f1 (rmS_next hS (by omega)) (fun o ho => by rw [ee]; exact hW o ho) b1 b2 (fun g hg => b3 g ((ee g).mp hg)) (b4.imp id (fun ⟨g, q1, q2⟩ => ⟨g, (ee g).mpr q1, q2⟩))
          apply hX9_giveRooms_39_i
          simp (disch := omega) only [m_0, m_L0, m_lt, m_le, m_eq, m_neg, m_in, m_clamp, m_add, m_sub, m_pred, m_mul, m_l, m_i, m_Land, m_Lor, m_and, m_or, m_xor, m_Landn, m_andn, m_LshlP, m_shl, m_LbitP, m_bit, m_cmp0P, m_Lb0, m_Lb1, m_b0, m_b1, Nat.one_mul, f1 1 (by omega), h10]
          exact ⟨by omega, fun _ => fin, fun h => by omega⟩
        | succ q ihq =>
          intro i X' W mx hi f1 hS hW b1 b2 b3 b4
          have hiG : i < G := by omega
          have hn := hR.1
          have hR' : RwV X' n R := by unfold RwV; rw [f1 0 (by omega), f1 10 (by omega)]; exact hR
          have hL' : ∀ p, p < m → X' 13 p = nI (le p) := fun p hp => by rw [f1 13 (by omega)]; exact hL p hp
          have hpl := hP i hiG
          apply hX9_giveRooms_39_i
          simp (disch := omega) only [m_0, m_L0, m_lt, m_le, m_eq, m_neg, m_in, m_clamp, m_add, m_sub, m_pred, m_mul, m_l, m_i, m_Land, m_Lor, m_and, m_or, m_xor, m_Landn, m_andn, m_LshlP, m_shl, m_LbitP, m_bit, m_cmp0P, m_Lb0, m_Lb1, m_b0, m_b1, Nat.one_mul, f1 1 (by omega), h10]
          refine ⟨by omega, fun h => by omega, fun _ => X9_first_s hm hR' (by omega) hlt hL' ⟨fp i, hpl.1.1, hpl.1.2.1⟩ (fun x x1 x2 x3 => cK1_mk ?_)⟩
          have ex : x = fp i := by
            have : ¬ x < fp i := fun q => hpl.1.2.2 x q x2
            have : ¬ fp i < x := fun q => x3 _ q hpl.1.2.1
            omega
          subst ex
          simp (disch := omega) only [m_0, m_L0, m_lt, m_le, m_eq, m_neg, m_in, m_clamp, m_add, m_sub, m_pred, m_mul, m_l, m_i, m_Land, m_Lor, m_and, m_or, m_xor, m_Landn, m_andn, m_LshlP, m_shl, m_LbitP, m_bit, m_cmp0P, m_Lb0, m_Lb1, m_b0, m_b1, Nat.one_mul]
          refine ⟨fun hfp => ?_, fun hne => ?_⟩
          · -- who stays
            have F : ∀ u, u ≤ 9 → (∀ o, asg G fp p i o → p ≤ lp o → W o ≠ u) → (∀ y, y < u → ∃ o, asg G fp p i o ∧ p ≤ lp o ∧ W o = y) → (((u : Int) ≤ mx → hX9_giveRooms_39 Q r (zI mx) (nI p) (nI (i + 1)) (up2 X' 27 i (nI u)) Y) ∧ (¬ ((u : Int) ≤ mx) → hX9_giveRooms_39 Q r (nI u) (nI p) (nI (i + 1)) (up2 X' 27 i (nI u)) Y)) := by
              intro u u9 q1 q2
              obtain ⟨g1, g2⟩ := rmS_put hG hS hiG hfp q1 q2
              have ss : gSz (asg G fp p i) 9 ≤ 8 := by
                have h1 := gSz_lt (P := asg G fp p i) (P' := asg G fp p (i + 1)) (n := 9) (fun o z => ⟨z.1, z.2.imp id (fun z => ⟨z.1, by omega⟩)⟩) (by omega : i < 9) ⟨hiG, Or.inr ⟨hfp, by omega⟩⟩ (fun z => by have := z.2; omega)
                have := gSz_bd (P := asg G fp p (i + 1)) (n := 9); omega
              have hW2 : RmV (up2 X' 27 i (nI u)) 27 G fp p (i + 1) G (fun o => if o = i then u else W o) := fun o ho => by
                by_cases e : o = i
                · subst e
                  refine ⟨fun _ => by rw [up2_same]; simp only [if_true], fun h => absurd ⟨hiG, Or.inr ⟨hfp, by omega⟩⟩ h⟩
                · have : asg G fp p (i + 1) o ↔ asg G fp p i o := ⟨fun q => ⟨q.1, q.2.imp id (fun z => ⟨z.1, by omega⟩)⟩, fun q => ⟨q.1, q.2.imp id (fun z => ⟨z.1, by omega⟩)⟩⟩
                  rw [this, up2_idx e]; simp only [if_neg e]; exact hW o ho
              have ag : ∀ g, asg G fp p (i + 1) g → g ≠ i → asg G fp p i g := fun g hg e => ⟨hg.1, hg.2.imp id (fun z => ⟨z.1, by omega⟩)⟩
              have gi : asg G fp p (i + 1) i := ⟨hiG, Or.inr ⟨hfp, by omega⟩⟩
              refine ⟨fun hle => ihq (i + 1) _ _ mx (by omega) (fun c hc => by rw [up2_row hc]; exact f1 c hc) g1 hW2 b1 b2 (fun g hg => ?_) (b4.imp id (fun ⟨g, z1, z2⟩ => ⟨g, ⟨z1.1, z1.2.imp id (fun z => ⟨z.1, by omega⟩)⟩, ?_⟩)), fun hle => ihq (i + 1) _ _ (u : Int) (by omega) (fun c hc => by rw [up2_row hc]; exact f1 c hc) g1 hW2 (by omega) (by omega) (fun g hg => ?_) (Or.inr ⟨i, gi, by rw [if_pos rfl]⟩)⟩
              · by_cases e : g = i
                · rw [if_pos e]; exact hle
                · rw [if_neg e]; exact b3 g (ag g hg e)
              · have : g ≠ i := fun e => by subst e; have := z1.2; omega
                rw [if_neg this]; exact z2
              · by_cases e : g = i
                · rw [if_pos e]; omega
                · rw [if_neg e]; have := b3 g (ag g hg e); omega
            have K : ∀ q2 j h, j + q2 = G → h < 512 → (∀ x, Bs h x ↔ ∃ o, o < j ∧ asg G fp p i o ∧ p ≤ lp o ∧ W o = x) → hX9_giveRooms_67 Q r (zI mx) (nI p) (nI i) (nI h) (nI j) X' Y := by
              intro q2
              induction q2 with
              | zero =>
                intro j h hj hh hI
                obtain ⟨l1, l2, l3⟩ := lz_ok ⟨h, hh⟩
                simp only at l1 l2 l3
                apply hX9_giveRooms_67_i
                simp (disch := omega) only [m_0, m_L0, m_lt, m_le, m_eq, m_neg, m_in, m_clamp, m_add, m_sub, m_pred, m_mul, m_l, m_i, m_Land, m_Lor, m_and, m_or, m_xor, m_Landn, m_andn, m_LshlP, m_shl, m_LbitP, m_bit, m_cmp0P, m_Lb0, m_Lb1, m_b0, m_b1, Nat.one_mul, f1 1 (by omega), h10]
                refine ⟨by omega, fun _ => ?_, fun h => by omega⟩
                have J : ∀ q3 u, u + q3 = lz h → hX9_giveRooms_122 Q r (zI mx) (nI p) (nI i) (nI h) (nI u) X' Y := by
                  intro q3
                  induction q3 with
                  | zero =>
                    intro u hu
                    have eu : u = lz h := by omega
                    subst eu
                    have hF := F (lz h) l3 (fun o q1 q2 e => by
                      have := (hI (lz h)).mpr ⟨o, by have := q1.1; omega, q1, q2, e⟩
                      exact absurd this (bsF.mpr l1)) (fun x hx => by
                      obtain ⟨o, -, q⟩ := (hI x).mp (l2 ⟨x, by omega⟩ hx)
                      exact ⟨o, q⟩)
                    apply hX9_giveRooms_122_i
                    simp (disch := omega) only [m_0, m_L0, m_lt, m_le, m_eq, m_neg, m_in, m_clamp, m_add, m_sub, m_pred, m_mul, m_l, m_i, m_Land, m_Lor, m_and, m_or, m_xor, m_Landn, m_andn, m_LshlP, m_shl, m_LbitP, m_bit, m_cmp0P, m_Lb0, m_Lb1, m_b0, m_b1, Nat.one_mul]
                    refine ⟨fun _ => ⟨by omega, ?_⟩, fun h9 => absurd (Classical.not_not.mp h9) (by rw [l1]; decide)⟩
                    rw [← m_zI (lz h), m_zle (by omega) (by omega), m_zI]
                    exact hF
                  | succ q3 ihq3 =>
                    intro u hu
                    have hb : h.testBit u = true := l2 ⟨u, by omega⟩ (by simp only; omega)
                    apply hX9_giveRooms_122_i
                    simp (disch := omega) only [m_0, m_L0, m_lt, m_le, m_eq, m_neg, m_in, m_clamp, m_add, m_sub, m_pred, m_mul, m_l, m_i, m_Land, m_Lor, m_and, m_or, m_xor, m_Landn, m_andn, m_LshlP, m_shl, m_LbitP, m_bit, m_cmp0P, m_Lb0, m_Lb1, m_b0, m_b1, Nat.one_mul]
                    exact ⟨fun h9 => absurd hb h9, fun _ => ihq3 (u + 1) (by omega)⟩
                exact J (lz h) 0 (Nat.zero_add _)
              | succ q2 ihq2 =>
                intro j h hj hh hI
                have hjG : j < G := by omega
                have nx : (asg G fp p i j → p ≤ lp j → False) → hX9_giveRooms_67 Q r (zI mx) (nI p) (nI i) (nI h) (nI (j + 1)) X' Y := fun hn => ihq2 (j + 1) h (by omega) hh (fun x => (hI x).trans ⟨fun ⟨o, q1, q2⟩ => ⟨o, by omega, q2⟩, fun ⟨o, q1, q2⟩ => ⟨o, by
                  by_cases e : o = j
                  · subst e; exact (hn q2.1 q2.2.1).elim
                  · omega, q2⟩⟩)
                apply hX9_giveRooms_67_i
                simp (disch := omega) only [m_0, m_L0, m_lt, m_le, m_eq, m_neg, m_in, m_clamp, m_add, m_sub, m_pred, m_mul, m_l, m_i, m_Land, m_Lor, m_and, m_or, m_xor, m_Landn, m_andn, m_LshlP, m_shl, m_LbitP, m_bit, m_cmp0P, m_Lb0, m_Lb1, m_b0, m_b1, Nat.one_mul, f1 1 (by omega), h10]
                refine ⟨by omega, fun h => by omega, fun _ => ⟨by omega, fun h1 => nx (fun q _ => nI_m1 (by have := hS.2 j q; have := gSz_bd (P := asg G fp p i) (n := 9); omega) (((hW j hjG).1 q).symm.trans h1)), fun h1 => ?_⟩⟩
                have ha : asg G fp p i j := Classical.byContradiction fun q => h1 ((hW j hjG).2 q)
                have hWj := hS.2 j ha
                have h9 := gSz_bd (P := asg G fp p i) (n := 9)
                have hlj := (hP j ha.1).2
                refine X9_last_s (by rw [f1 0 (by omega)]; exact h16) hm hR' (by omega) hlt hL' ⟨lp j, hlj.1, hlj.2.1⟩ (fun x x1 x2 x3 => cK1_mk ?_)
                have ex : x = lp j := by
                  have : ¬ x < lp j := fun q => x3 _ q hlj.1 hlj.2.1
                  have : ¬ lp j < x := fun q => hlj.2.2 _ q x1 x2
                  omega
                subst ex
                simp (disch := omega) only [m_0, m_L0, m_lt, m_le, m_eq, m_neg, m_in, m_clamp, m_add, m_sub, m_pred, m_mul, m_l, m_i, m_Land, m_Lor, m_and, m_or, m_xor, m_Landn, m_andn, m_LshlP, m_shl, m_LbitP, m_bit, m_cmp0P, m_Lb0, m_Lb1, m_b0, m_b1, Nat.one_mul, (hW j hjG).1 ha]
                refine ⟨fun h2 => nx (fun _ q => by omega), fun h2 => ⟨by omega, ihq2 (j + 1) _ (by omega) (Nat.or_lt_two_pow (n := 9) hh (Nat.pow_lt_pow_right (a := 2) (by omega) (by omega))) (fun x => ?_)⟩⟩
                show (h ||| 2 ^ W j).testBit x = true ↔ _
                rw [or_bitT]
                constructor
                · rintro (q | q)
                  · obtain ⟨o, q1, q2⟩ := (hI x).mp q
                    exact ⟨o, by omega, q2⟩
                  · exact ⟨j, by omega, ha, by omega, q⟩
                · rintro ⟨o, q1, q2⟩
                  by_cases e : o = j
                  · subst e; exact Or.inr q2.2.2
                  · exact Or.inl ((hI x).mpr ⟨o, by omega, q2⟩)
            exact K G 0 0 (Nat.zero_add _) (by omega) (fun x => ⟨fun q => by simp [Bs] at q, fun ⟨o, q, _⟩ => by omega⟩)
          · have ee : ∀ o, asg G fp p (i + 1) o ↔ asg G fp p i o := fun o => ⟨fun q => ⟨q.1, q.2.imp id (fun z => ⟨z.1, by
              by_cases e : o = i
              · subst e; exact absurd z.1 hne
              · omega⟩)⟩, fun q => ⟨q.1, q.2.imp id (fun z => ⟨z.1, by omega⟩)⟩⟩
            exact ihq (i + 1) X' W mx (by omega) f1 (rmS_skip hS (Or.inl hne)) (fun o ho => by rw [ee]; exact hW o ho) b1 b2 (fun g hg => b3 g ((ee g).mp hg)) (b4.imp id (fun ⟨g, q1, q2⟩ => ⟨g, (ee g).mpr q1, q2⟩))
      exact G1 G 0 X' W mx (Nat.zero_add _) f1 hS hW b1 b2 b3 b4
  have na : ∀ o, ¬ asg G fp 0 0 o := fun o q => by have := q.2; omega
  have Z : ∀ t j X', j + t = G → (∀ c, c ≠ 27 → X' c = X c) → (∀ o, o < j → X' 27 o = -1) → hX9_giveRooms_4 Q r (-1) (nI j) X' Y := by
    intro t
    induction t with
    | zero =>
      intro j X' hj f1 h3
      have fin : hX9_giveRooms_29 Q r (zI (-1)) (nI 0) X' Y := H m 0 X' (fun _ => 0) (-1) (Nat.zero_add _) f1 ⟨fun g q => absurd q (na g), fun g q => absurd q (na g)⟩ (fun o ho => ⟨fun q => absurd q (na o), fun _ => h3 o (by omega)⟩) (by omega) (by omega) (fun g hg => absurd hg (na g)) (Or.inl rfl)
      apply hX9_giveRooms_4_i
      simp (disch := omega) only [m_0, m_L0, m_lt, m_le, m_eq, m_neg, m_in, m_clamp, m_add, m_sub, m_pred, m_mul, m_l, m_i, m_Land, m_Lor, m_and, m_or, m_xor, m_Landn, m_andn, m_LshlP, m_shl, m_LbitP, m_bit, m_cmp0P, m_Lb0, m_Lb1, m_b0, m_b1, Nat.one_mul, f1 1 (by omega), h10]
      exact ⟨by omega, fun _ => fin, fun h => by omega⟩
    | succ t ih =>
      intro j X' hj f1 h3
      apply hX9_giveRooms_4_i
      simp (disch := omega) only [m_0, m_L0, m_lt, m_le, m_eq, m_neg, m_in, m_clamp, m_add, m_sub, m_pred, m_mul, m_l, m_i, m_Land, m_Lor, m_and, m_or, m_xor, m_Landn, m_andn, m_LshlP, m_shl, m_LbitP, m_bit, m_cmp0P, m_Lb0, m_Lb1, m_b0, m_b1, Nat.one_mul, f1 1 (by omega), h10]
      refine ⟨by omega, fun h => by omega, fun _ => ⟨by omega, ih (j + 1) _ (by omega) (fun c hc => by rw [up2_row hc]; exact f1 c hc) (fun o ho => ?_)⟩⟩
      by_cases e : o = j
      · rw [e, up2_same]
      · rw [up2_idx e]; exact h3 o (by omega)
  exact Z G 0 X (Nat.zero_add _) (fun _ _ => rfl) (fun o ho => by omega)
end RoomsM
section MomM
variable {Q : Qt} {r : Ly} {X : HX} {Y : HY} {M : Nat → Nat} {G : Nat}
/-- the rows that findMoments leaves -/
noncomputable def rwF (M : Nat → Nat) (G v : Nat) : Nat := if mN M G < 10 then rwM M G v else 0
theorem rwF_lt (v : Nat) : rwF M G v < 512 := by
  unfold rwF
  split
  · have h := rwM_lt (M := M) (G := G) v
    have := Nat.pow_le_pow_right (n := 2) (by omega) (show mN M G ≤ 9 by omega)
    omega
  · omega
theorem X9_moms_s (h10 : X 1 0 = nI G) (hN : NV X M) (hG : G ≤ 9) (hMb : ∀ i j, Eo M i j → i < G ∧ j < G) (hs : ∀ a b, Eo M a b → Eo M b a) (hir : ∀ a, ¬ Eo M a a) (k : ∀ X', (∀ c, c ≠ 0 → c ≠ 9 → c ≠ 10 → X' c = X c) → (∀ i, i ≠ 16 → i ≠ 18 → i ≠ 24 → i ≠ 25 → X' 0 i = X 0 i) → MV X' (mN M G) (mo M G) → RwV X' G (rwF M G) → PrV X' G [] → TrV X' G none → Q (.inl none) (LX9 ++ r) X' Y) : tX9_findMoments [.ref 0] (LX9 ++ r) X Y Q := by
  have hT := pw9 hG
  have hT0 := Nat.two_pow_pos G
  have h27 := mN_27 (M := M) hs hir hG
  -- rows
  have R1 : ∀ n v X', v + n = G → (∀ c, c ≠ 0 → c ≠ 9 → c ≠ 10 → X' c = X c) → (∀ i, i ≠ 16 → X' 0 i = X 0 i) → MV X' (mN M G) (mo M G) → (∀ u, u < v → X' 10 u = nI (rwF M G u)) → hX9_findMoments_122 Q r (nI v) X' Y := by
    intro n
    induction n with
    | zero =>
      intro v X' hv f1 f2 hV hR
      apply hX9_findMoments_122_i
      simp (disch := omega) only [m_0, m_L0, m_lt, m_le, m_eq, m_neg, m_in, m_clamp, m_add, m_sub, m_pred, m_mul, m_l, m_i, m_Land, m_Lor, m_and, m_or, m_xor, m_Landn, m_andn, m_LshlP, m_shl, m_LbitP, m_bit, m_cmp0P, m_Lb0, m_Lb1, m_b0, m_b1, Nat.one_mul, f1 1 (by omega) (by omega) (by omega), h10]
      refine ⟨by omega, fun _ => ⟨by omega, k _ (fun c q1 q2 q3 => by rw [up2_row q1, up2_row q1, up2_row q1]; exact f1 c q1 q2 q3) (fun i q1 q2 q3 q4 => by rw [up2_idx q4, up2_idx q3, up2_idx q2]; exact f2 i q1) ?_ ?_ ?_ ?_⟩, fun h => by omega⟩
      · refine ⟨h27, ?_, fun t ht => ?_⟩
        · rw [up2_idx (by omega), up2_idx (by omega), up2_idx (by omega)]; exact hV.2.1
        · rw [up2_out (by omega), up2_out (by omega), up2_out (by omega)]; exact hV.2.2 t ht
      · refine ⟨by omega, ?_, fun u hu => ⟨?_, rwF_lt u⟩⟩
        · rw [up2_idx (by omega), up2_idx (by omega), up2_same]
        · rw [up2_out (by omega), up2_out (by omega), up2_out (by omega)]; exact hR u (by omega)
      · refine ⟨by simp, ?_, fun t p hp => by simp at hp⟩
        rw [up2_idx (by omega), up2_same]; rfl
      · show up2 _ 0 25 (-1) 0 25 = -1
        rw [up2_same]
    | succ n ih =>
      intro v X' hv f1 f2 hV hR
      apply hX9_findMoments_122_i
      simp (disch := omega) only [m_0, m_L0, m_lt, m_le, m_eq, m_neg, m_in, m_clamp, m_add, m_sub, m_pred, m_mul, m_l, m_i, m_Land, m_Lor, m_and, m_or, m_xor, m_Landn, m_andn, m_LshlP, m_shl, m_LbitP, m_bit, m_cmp0P, m_Lb0, m_Lb1, m_b0, m_b1, Nat.one_mul, f1 1 (by omega) (by omega) (by omega), h10]
      refine ⟨by omega, fun h => by omega, fun _ => ⟨by omega, ?_⟩⟩
      have R2 : ∀ q i X', i + q = mN M G → (∀ c, c ≠ 0 → c ≠ 9 → c ≠ 10 → X' c = X c) → (∀ i, i ≠ 16 → X' 0 i = X 0 i) → MV X' (mN M G) (mo M G) → (∀ u, u < v → X' 10 u = nI (rwF M G u)) → X' 10 v = nI (if mN M G < 10 then bmk (fun k => (mo M G k).testBit v) i else 0) → hX9_findMoments_141 Q r (nI v) (nI i) X' Y := by
        intro q
        induction q with
        | zero =>
          intro i X' hi f1 f2 hV hR hv10
          have ei : i = mN M G := by omega
          subst ei
          have fin : hX9_findMoments_122 Q r (nI (v + 1)) X' Y := by
            refine ih (v + 1) X' (by omega) f1 f2 hV (fun u hu => ?_)
            by_cases e : u = v
            · subst e; rw [hv10]; rfl
            · exact hR u (by omega)
          apply hX9_findMoments_141_i
          simp (disch := omega) only [m_0, m_L0, m_lt, m_le, m_eq, m_neg, m_in, m_clamp, m_add, m_sub, m_pred, m_mul, m_l, m_i, m_Land, m_Lor, m_and, m_or, m_xor, m_Landn, m_andn, m_LshlP, m_shl, m_LbitP, m_bit, m_cmp0P, m_Lb0, m_Lb1, m_b0, m_b1, Nat.one_mul, hV.2.1]
          exact ⟨fun _ => fin, fun h => by omega⟩
        | succ q ihq =>
          intro i X' hi f1 f2 hV hR hv10
          have h1 := hV.2.2 i (by omega)
          apply hX9_findMoments_141_i
          simp (disch := omega) only [m_0, m_L0, m_lt, m_le, m_eq, m_neg, m_in, m_clamp, m_add, m_sub, m_pred, m_mul, m_l, m_i, m_Land, m_Lor, m_and, m_or, m_xor, m_Landn, m_andn, m_LshlP, m_shl, m_LbitP, m_bit, m_cmp0P, m_Lb0, m_Lb1, m_b0, m_b1, Nat.one_mul, hV.2.1, h1.1]
          refine ⟨fun h => by omega, fun _ => ⟨fun h10' => ?_, fun h10' => ?_⟩⟩
          · refine ih (v + 1) X' (by omega) f1 f2 hV (fun u hu => ?_)
            by_cases e : u = v
            · subst e; rw [hv10, if_neg (by omega)]; unfold rwF; rw [if_neg (by omega)]
            · exact hR u (by omega)
          · have hm10 : mN M G < 10 := by omega
            rw [if_pos hm10] at hv10
            have eb := bmk_or (fun k => (mo M G k).testBit v) i
            refine ⟨by omega, fun hb => ihq (i + 1) X' (by omega) f1 f2 hV hR ?_, fun hb => ?_⟩
            · have hb0 : (mo M G i).testBit v = false := by cases h : (mo M G i).testBit v; rfl; exact absurd h hb
              rw [hv10, if_pos hm10, ← eb, hb0]; simp
            · have hb1 := Classical.not_not.mp hb
              have hlt := bmk_lt (fun k => (mo M G k).testBit v) i
              have : 2 ^ i ≤ 512 := pw9 (by omega)
              simp (disch := omega) only [m_0, m_L0, m_lt, m_le, m_eq, m_neg, m_in, m_clamp, m_add, m_sub, m_pred, m_mul, m_l, m_i, m_Land, m_Lor, m_and, m_or, m_xor, m_Landn, m_andn, m_LshlP, m_shl, m_LbitP, m_bit, m_cmp0P, m_Lb0, m_Lb1, m_b0, m_b1, Nat.one_mul, hv10]
              refine ⟨by omega, by omega, ihq (i + 1) _ (by omega) (fun c q1 q2 q3 => by rw [up2_row q3]; exact f1 c q1 q2 q3) (fun i hi => by rw [up2_out (by omega)]; exact f2 i hi) ⟨h27, by rw [up2_out (by omega)]; exact hV.2.1, fun t ht => by rw [up2_out (by omega)]; exact hV.2.2 t ht⟩ (fun u hu => by rw [up2_idx (by omega)]; exact hR u hu) ?_⟩
              rw [up2_same, if_pos hm10, ← eb, hb1]; simp
      refine R2 (mN M G) 0 _ (Nat.zero_add _) (fun c q1 q2 q3 => by rw [up2_row q3]; exact f1 c q1 q2 q3) (fun i hi => by rw [up2_out (by omega)]; exact f2 i hi) ⟨h27, by rw [up2_out (by omega)]; exact hV.2.1, fun t ht => by rw [up2_out (by omega)]; exact hV.2.2 t ht⟩ (fun u hu => by rw [up2_idx (by omega)]; exact hR u hu) ?_
      rw [up2_same]; split <;> rfl
  -- MOMENTS
  have H : ∀ n j X', j + n = 2 ^ G → 1 ≤ j → (∀ c, c ≠ 0 → c ≠ 9 → c ≠ 10 → X' c = X c) → (∀ i, i ≠ 16 → X' 0 i = X 0 i) → X' 0 16 = nI (flL (mxP2 M G) j).length → (∀ t, t < (flL (mxP2 M G) j).length → X' 9 t = nI ((flL (mxP2 M G) j).getD t 0)) → hX9_findMoments_7 Q r (nI j) X' Y := by
    intro n
    induction n with
    | zero =>
      intro j X' hj h1 f1 f2 h16 hm
      have e : j = 2 ^ G := by omega
      subst e
      apply hX9_findMoments_7_i
      apply tX9_all_i
      simp (disch := omega) only [m_0, m_L0, m_lt, m_le, m_eq, m_neg, m_in, m_clamp, m_add, m_sub, m_pred, m_mul, m_l, m_i, m_Land, m_Lor, m_and, m_or, m_xor, m_Landn, m_andn, m_LshlP, m_shl, m_LbitP, m_bit, m_cmp0P, m_Lb0, m_Lb1, m_b0, m_b1, Nat.one_mul, f1 1 (by omega) (by omega) (by omega), h10]
      refine ⟨by omega, cK1_mk ⟨fun _ => R1 G 0 X' (Nat.zero_add _) f1 f2 ⟨h27, h16, fun t ht => ⟨hm t ht, by have := (mo_is ht).2.2; omega⟩⟩ (fun u hu => by omega), fun h => absurd ((m_lt (by omega) (by omega)).mpr (by omega)) h⟩⟩
    | succ n ih =>
      intro j X' hj h1 f1 f2 h16 hm
      have hjT : j < 2 ^ G := by omega
      have hl1 : (flL (mxP2 M G) j).length ≤ (flL (mxP2 M G) (j + 1)).length := by rw [flL_len, flL_len]; exact gSz_mn (by omega)
      have hl2 : (flL (mxP2 M G) (j + 1)).length ≤ mN M G := by unfold mN mos; rw [flL_len, flL_len]; exact gSz_mn (by omega)
      have hN' : NV X' M := fun i hi => by rw [f1 7 (by omega) (by omega) (by omega)]; exact hN i hi
      apply hX9_findMoments_7_i
      apply tX9_all_i
      simp (disch := omega) only [m_0, m_L0, m_lt, m_le, m_eq, m_neg, m_in, m_clamp, m_add, m_sub, m_pred, m_mul, m_l, m_i, m_Land, m_Lor, m_and, m_or, m_xor, m_Landn, m_andn, m_LshlP, m_shl, m_LbitP, m_bit, m_cmp0P, m_Lb0, m_Lb1, m_b0, m_b1, Nat.one_mul, f1 1 (by omega) (by omega) (by omega), h10]
      refine ⟨by omega, cK1_mk ⟨fun h => absurd ((m_lt (by omega) (by omega)).mp h) (by omega), fun _ => ?_⟩⟩
      have K : ∀ q v sh (al : Bool), v + q = G → sh < 1024 → (∀ x, Bs sh x ↔ x < 10 ∧ ∀ u, u < v → Bs j u → Eo M u x) → (al = true ↔ ∀ u, u < v → Bs j u → ∀ x, Bs j x → x ≠ u → Eo M u x) → hX9_findMoments_24 Q r (nI j) (nI sh) (nI al.toNat) (nI v) X' Y := by
        intro q
        induction q with
        | zero =>
          intro v sh al hv hsh hS hA
          have ev : v = G := by omega
          subst ev
          have alb := b01n al
          have key : (al = true ∧ sh = 0) ↔ mxP2 M v j := by
            constructor
            · rintro ⟨q1, q2⟩
              have hA := hA.mp q1
              refine ⟨⟨fun x hx => bs_full.mpr (bit_lt hjT hx), fun a x ha hx hne => hA a (bit_lt hjT ha) ha x hx (fun e => hne e.symm), fun u hu hn => Classical.byContradiction fun hq => ?_⟩, by omega⟩
              have : Bs sh u := (hS u).mpr ⟨by have := bs_full.mp hu; omega, fun x _ hx => Classical.byContradiction fun z => hq ⟨x, hx, z⟩⟩
              rw [q2] at this; simp [Bs] at this
            · rintro ⟨⟨q1, q2, q3⟩, -⟩
              refine ⟨hA.mpr (fun u hu hju x hx hne => q2 u x hju hx (fun e => hne e.symm)), eq0_bit (fun x => ?_)⟩
              apply bsF.mp
              intro hx
              obtain ⟨z1, z2⟩ := (hS x).mp hx
              obtain ⟨y, hy⟩ := ne0_bit (show j ≠ 0 by omega)
              have hxy := z2 y (bit_lt hjT hy) hy
              by_cases hjx : Bs j x
              · exact hir x (z2 x (bit_lt hjT hjx) hjx)
              · obtain ⟨u, hu, hne⟩ := q3 x (bs_full.mpr (hMb _ _ hxy).2) hjx
                exact hne (z2 u (bit_lt hjT hu) hu)
          have no : ¬ mxP2 M v j → hX9_findMoments_7 Q r (nI (j + 1)) X' Y := fun hn => ih (j + 1) X' (by omega) (by omega) f1 f2 (by rw [flL_no hn]; exact h16) (by rw [flL_no hn]; exact hm)
          apply hX9_findMoments_24_i
          simp (disch := omega) only [m_0, m_L0, m_lt, m_le, m_eq, m_neg, m_in, m_clamp, m_add, m_sub, m_pred, m_mul, m_l, m_i, m_Land, m_Lor, m_and, m_or, m_xor, m_Landn, m_andn, m_LshlP, m_shl, m_LbitP, m_bit, m_cmp0P, m_Lb0, m_Lb1, m_b0, m_b1, Nat.one_mul, f1 1 (by omega) (by omega) (by omega), h10, h16]
          refine ⟨by omega, fun _ => ⟨fun ha => no (fun q => by rw [(key.mpr q).1] at ha; exact absurd ha (by decide)), fun ha => ⟨fun hs0 => no (fun q => hs0 (key.mpr q).2), fun hs0 => ⟨by omega, ?_⟩⟩⟩, fun h => by omega⟩
          have hyes := key.mp ⟨by cases al; exact absurd rfl ha; rfl, Classical.not_not.mp hs0⟩
          have el : (flL (mxP2 M v) (j + 1)).length = (flL (mxP2 M v) j).length + 1 := by rw [flL_yes hyes]; simp
          simp (disch := omega) only [m_0, m_L0, m_lt, m_le, m_eq, m_neg, m_in, m_clamp, m_add, m_sub, m_pred, m_mul, m_l, m_i, m_Land, m_Lor, m_and, m_or, m_xor, m_Landn, m_andn, m_LshlP, m_shl, m_LbitP, m_bit, m_cmp0P, m_Lb0, m_Lb1, m_b0, m_b1, Nat.one_mul, up2_out, h16]
          refine ih (j + 1) _ (by omega) (by omega) (fun c q1 q2 q3 => by rw [up2_row q1, up2_row q2]; exact f1 c q1 q2 q3) (fun i hi => by rw [up2_idx hi, up2_out (by omega)]; exact f2 i hi) (by rw [up2_same, el]) ?_
          rw [flL_yes hyes]
          intro t ht
          rw [List.length_append, List.length_cons, List.length_nil] at ht
          rw [up2_out (by omega), List.getD_eq_getElem?_getD]
          by_cases e : t = (flL (mxP2 M v) j).length
          · subst e
            rw [up2_same, List.getElem?_append_right (Nat.le_refl _), Nat.sub_self]; rfl
          · rw [up2_idx e, List.getElem?_append_left (by omega), ← List.getD_eq_getElem?_getD]
            exact hm t (by omega)
        | succ q ihq =>
          intro v sh al hv hsh hS hA
          have hvG : v < G := by omega
          have hNv := hN' v (by omega)
          have n1 := nAn_le (nAn j (2 ^ v)) (M v)
          have n2 := nAn_le j (2 ^ v)
          have n3 : sh &&& M v ≤ sh := Nat.and_le_left
          apply hX9_findMoments_24_i
          simp (disch := omega) only [m_0, m_L0, m_lt, m_le, m_eq, m_neg, m_in, m_clamp, m_add, m_sub, m_pred, m_mul, m_l, m_i, m_Land, m_Lor, m_and, m_or, m_xor, m_Landn, m_andn, m_LshlP, m_shl, m_LbitP, m_bit, m_cmp0P, m_Lb0, m_Lb1, m_b0, m_b1, Nat.one_mul, f1 1 (by omega) (by omega) (by omega), h10, hNv.1]
          refine ⟨by omega, fun h => by omega, fun _ => ⟨fun hb => ⟨by omega, by omega, fun hz => ?_, fun hz => ?_⟩, fun hb => ihq (v + 1) sh al (by omega) hsh (fun x => ?_) ?_⟩⟩
          · have hb1 : Bs j v := nz_nz hb
            refine ihq (v + 1) _ al (by omega) (by omega) (fun x => ?_) ?_
            · have : Bs (sh &&& M v) x ↔ Bs sh x ∧ Eo M v x := by unfold Bs; rw [Nat.testBit_and, Bool.and_eq_true]; rfl
              rw [this, hS]
              exact ⟨fun ⟨⟨a, b⟩, c⟩ => ⟨a, fun u hu hju => by
                by_cases e : u = v
                · subst e; exact c
                · exact b u (by omega) hju⟩, fun ⟨a, b⟩ => ⟨⟨a, fun u hu => b u (by omega)⟩, b v (by omega) hb1⟩⟩
            · rw [hA]
              have hz := nAn_0.mp hz
              refine ⟨fun h u hu hju x hx hne => ?_, fun h u hu => h u (by omega)⟩
              by_cases e : u = v
              · subst e; exact hz x (nAn1_bit.mpr ⟨hx, fun e => hne e.symm⟩)
              · exact h u (by omega) hju x hx hne
          · have hb1 : Bs j v := nz_nz hb
            have e0 : nI 0 = nI (false : Bool).toNat := rfl
            rw [e0]
            refine ihq (v + 1) _ false (by omega) (by omega) (fun x => ?_) ⟨fun q => (by cases q), fun q => absurd (nAn_0.mpr (fun x hx => ?_)) hz⟩
            · have : Bs (sh &&& M v) x ↔ Bs sh x ∧ Eo M v x := by unfold Bs; rw [Nat.testBit_and, Bool.and_eq_true]; rfl
              rw [this, hS]
              exact ⟨fun ⟨⟨a, b⟩, c⟩ => ⟨a, fun u hu hju => by
                by_cases e : u = v
                · subst e; exact c
                · exact b u (by omega) hju⟩, fun ⟨a, b⟩ => ⟨⟨a, fun u hu => b u (by omega)⟩, b v (by omega) hb1⟩⟩
            · obtain ⟨z1, z2⟩ := nAn1_bit.mp hx
              exact q v (by omega) hb1 x z1 (fun e => z2 e.symm)
          · have hb0 : ¬ Bs j v := bsF.mpr (Classical.not_not.mp hb)
            rw [hS]
            exact ⟨fun ⟨a, b⟩ => ⟨a, fun u hu hju => b u (by
              by_cases e : u = v
              · subst e; exact absurd hju hb0
              · omega) hju⟩, fun ⟨a, b⟩ => ⟨a, fun u hu => b u (by omega)⟩⟩
          · have hb0 : ¬ Bs j v := bsF.mpr (Classical.not_not.mp hb)
            rw [hA]
            exact ⟨fun b u hu hju => b u (by
              by_cases e : u = v
              · subst e; exact absurd hju hb0
              · omega) hju, fun b u hu => b u (by omega)⟩
      refine K G 0 1023 true (Nat.zero_add _) (by omega) (fun x => ?_) ⟨fun _ u hu => by omega, fun _ => rfl⟩
      show (1023 : Nat).testBit x = true ↔ _
      rw [show (1023 : Nat) = 2 ^ 10 - 1 from rfl, full_bit, decide_eq_true_eq]
      exact ⟨fun h => ⟨h, fun u hu => by omega⟩, fun h => h.1⟩
  apply tX9_findMoments_i
  have e0 : flL (mxP2 M G) 1 = [] := flL_no (fun q => q.2 rfl)
  exact H _ 1 _ (Nat.add_sub_cancel' (by omega : 1 ≤ 2 ^ G)) (Nat.le_refl _) (fun c q1 q2 q3 => up2_row q1) (fun i hi => up2_idx hi) (by rw [up2_same, e0]; rfl) (fun t ht => by rw [e0] at ht; simp at ht)
end MomM
