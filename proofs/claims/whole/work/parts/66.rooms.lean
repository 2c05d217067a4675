/-! rooms by coming: class and reference -/
def bef1 (fp : Nat → Nat) (o g : Nat) : Prop := fp o < fp g ∨ (fp o = fp g ∧ o < g)
/-- the rooms of all of some (closed to the ones ahead) -/
def rmD (A : Nat → Prop) (fp lp R : Nat → Nat) : Prop := ∀ g, A g → (∀ o, A o → bef1 fp o g → fp g ≤ lp o → R o ≠ R g) ∧ ∀ n, n < R g → ∃ o, A o ∧ bef1 fp o g ∧ fp g ≤ lp o ∧ R o = n
theorem rmD_uq {G : Nat} {fp lp R R' : Nat → Nat} (h : rmD (fun g => g < G) fp lp R) (h' : rmD (fun g => g < G) fp lp R') : ∀ g, g < G → R g = R' g := by
  have key : ∀ n g, g < G → fp g * G + g ≤ n → R g = R' g := by
    intro n
    induction n with
    | zero =>
      intro g hg hn
      have no : ∀ o, o < G → bef1 fp o g → False := fun o ho hb => by
        have h0 : fp g * G = 0 := by omega
        have h1 : fp g = 0 := by
          rcases Nat.mul_eq_zero.mp h0 with q | q
          · exact q
          · omega
        rcases hb with q | q <;> omega
      rcases Nat.lt_trichotomy (R g) (R' g) with q | q | q
      · obtain ⟨o, ho, hb, -⟩ := (h' g hg).2 _ q; exact (no o ho hb).elim
      · exact q
      · obtain ⟨o, ho, hb, -⟩ := (h g hg).2 _ q; exact (no o ho hb).elim
    | succ n ih =>
      intro g hg hn
      have less : ∀ o, o < G → bef1 fp o g → R o = R' o := fun o ho hb => ih o ho (by
        rcases hb with q | ⟨q1, q2⟩
        · have : (fp o + 1) * G ≤ fp g * G := Nat.mul_le_mul_right G q
          rw [Nat.succ_mul] at this; omega
        · rw [q1]; omega)
      rcases Nat.lt_trichotomy (R g) (R' g) with q | q | q
      · obtain ⟨o, ho, hb, hl, e⟩ := (h' g hg).2 _ q
        exact absurd ((less o ho hb).trans e) ((h g hg).1 o ho hb hl)
      · exact q
      · obtain ⟨o, ho, hb, hl, e⟩ := (h g hg).2 _ q
        exact absurd ((less o ho hb).symm.trans e) ((h' g hg).1 o ho hb hl)
  exact fun g hg => key _ g hg (Nat.le_refl _)
/-- who has a room already -/
def asg (G : Nat) (fp : Nat → Nat) (p i o : Nat) : Prop := o < G ∧ (fp o < p ∨ (fp o = p ∧ o < i))
/-- rooms so far -/
def rmS (G : Nat) (fp lp : Nat → Nat) (p i : Nat) (R : Nat → Nat) : Prop := rmD (asg G fp p i) fp lp R ∧ ∀ o, asg G fp p i o → R o < gSz (asg G fp p i) 9
theorem rmS_skip {G p i : Nat} {fp lp R : Nat → Nat} (h : rmS G fp lp p i R) (hi : fp i ≠ p ∨ G ≤ i) : rmS G fp lp p (i + 1) R := by
  have e : asg G fp p (i + 1) = asg G fp p i := funext fun o => propext ⟨fun q => ⟨q.1, q.2.imp id (fun z => ⟨z.1, by
    have h1 := q.1
    by_cases e : o = i
    · subst e; rcases hi with hi | hi
      · exact absurd z.1 hi
      · omega
    · omega⟩)⟩, fun q => ⟨q.1, q.2.imp id (fun z => ⟨z.1, by omega⟩)⟩⟩
  unfold rmS; rw [e]; exact h
theorem rmS_next {G p i : Nat} {fp lp R : Nat → Nat} (h : rmS G fp lp p i R) (hi : G ≤ i) : rmS G fp lp (p + 1) 0 R := by
  have e : asg G fp (p + 1) 0 = asg G fp p i := funext fun o => propext ⟨fun q => ⟨q.1, by have := q.2; have := q.1; omega⟩, fun q => ⟨q.1, by have := q.2; have := q.1; omega⟩⟩
  unfold rmS; rw [e]; exact h
theorem rmS_put {G p g l : Nat} {fp lp R : Nat → Nat} (hG : G ≤ 9) (h : rmS G fp lp p g R) (hg : g < G) (hp : fp g = p) (h1 : ∀ o, asg G fp p g o → p ≤ lp o → R o ≠ l) (h2 : ∀ n, n < l → ∃ o, asg G fp p g o ∧ p ≤ lp o ∧ R o = n) : rmS G fp lp p (g + 1) (fun o => if o = g then l else R o) ∧ l ≤ gSz (asg G fp p g) 9 := by
  have ng : ¬ asg G fp p g g := fun q => by have := q.2; omega
  have as : ∀ o, asg G fp p (g + 1) o ↔ asg G fp p g o ∨ o = g := fun o => by
    constructor
    · rintro ⟨q1, q2⟩
      by_cases e : o = g
      · exact Or.inr e
      · exact Or.inl ⟨q1, by omega⟩
    · rintro (⟨q1, q2⟩ | rfl)
      · exact ⟨q1, by omega⟩
      · exact ⟨hg, by omega⟩
  have sz := gSz_add (P := asg G fp p g) (P' := asg G fp p (g + 1)) (w := g) ng as (n := 9) (by omega)
  have hb : ∀ o, asg G fp p g o → bef1 fp o g := fun o q => by
    rcases q.2 with q | q
    · exact Or.inl (by omega)
    · exact Or.inr (by omega)
  have hl : l ≤ gSz (asg G fp p g) 9 := Classical.byContradiction fun q => by
    obtain ⟨o, ho, -, e⟩ := h2 (gSz (asg G fp p g) 9) (by omega)
    have := h.2 o ho; omega
  have en : ∀ o, asg G fp p g o → (fun o => if o = g then l else R o) o = R o := fun o ho => if_neg (fun (e : o = g) => ng (e ▸ ho))
  have eg : (fun o => if o = g then l else R o) g = l := if_pos rfl
  refine ⟨⟨fun x hx => ?_, fun o ho => ?_⟩, hl⟩
  · rcases (as x).mp hx with hx | rfl
    · rw [en x hx]
      have hx0 := h.1 x hx
      have nb : ¬ bef1 fp g x := fun q => by
        have h3 := hb x hx
        rcases q with q | q <;> rcases h3 with h3 | h3 <;> omega
      refine ⟨fun o ho hbo hle => ?_, fun n hn => ?_⟩
      · rcases (as o).mp ho with ho | rfl
        · rw [en o ho]; exact hx0.1 o ho hbo hle
        · exact absurd hbo nb
      · obtain ⟨o, q1, q2, q3, q4⟩ := hx0.2 n hn
        exact ⟨o, (as o).mpr (Or.inl q1), q2, q3, by rw [en o q1]; exact q4⟩
    · rw [eg]
      refine ⟨fun o ho hbo hle => ?_, fun n hn => ?_⟩
      · rcases (as o).mp ho with ho | rfl
        · rw [en o ho]; exact h1 o ho (by omega)
        · rcases hbo with q | q <;> omega
      · obtain ⟨o, q1, q2, q3⟩ := h2 n hn
        exact ⟨o, (as o).mpr (Or.inl q1), hb o q1, by omega, by rw [en o q1]; exact q3⟩
  · rcases (as o).mp ho with ho | rfl
    · rw [en o ho, sz]; have := h.2 o ho; omega
    · rw [eg, sz]; omega
/-- the least bit that is 0 -/
def lz (h : Nat) : Nat := if !h.testBit 0 then 0 else if !h.testBit 1 then 1 else if !h.testBit 2 then 2 else if !h.testBit 3 then 3 else if !h.testBit 4 then 4 else if !h.testBit 5 then 5 else if !h.testBit 6 then 6 else if !h.testBit 7 then 7 else if !h.testBit 8 then 8 else 9
theorem lz_ok : ∀ h : Fin 512, h.val.testBit (lz h.val) = false ∧ (∀ i : Fin 10, i.val < lz h.val → h.val.testBit i.val = true) ∧ lz h.val ≤ 9 := by decide +kernel
theorem lz_low : ∀ h : Fin 512, (((nI h.val ^^^ (-1)).toInt64) &&& (-((nI h.val ^^^ (-1)).toInt64))) - lN 1 = lN (2 ^ lz h.val - 1) := by decide +kernel
/-- rooms in a row of cells -/
def RmV (X : HX) (c G : Nat) (fp : Nat → Nat) (p i n : Nat) (R : Nat → Nat) : Prop := ∀ o, o < n → (asg G fp p i o → X c o = nI (R o)) ∧ (¬ asg G fp p i o → X c o = -1)
section Rooms
variable {Q : Qt} {r : Ly} {X : HX} {Y : HY} {m G : Nat} {mos le fp lp : Nat → Nat}
/-- the places of all guests -/
def PlO (m G : Nat) (mos le fp lp : Nat → Nat) : Prop := ∀ g, g < G → (fp g < m ∧ Bs (mos (le (fp g))) g ∧ ∀ i, i < fp g → ¬ Bs (mos (le i)) g) ∧ lp g < m ∧ Bs (mos (le (lp g))) g ∧ ∀ i, lp g < i → i < m → ¬ Bs (mos (le i)) g
theorem PlO_l {g : Nat} (h : PlO m G mos le fp lp) (hg : g < G) {z : Int} (hz : lpP m mos le g z) : z = lp g := by
  obtain ⟨-, h1, h2, h3⟩ := h g hg
  rcases hz with ⟨-, q⟩ | ⟨p, rfl, q1, q2, q3⟩
  · exact absurd h2 (q _ h1)
  · have : ¬ p < lp g := fun q => q3 _ q h1 h2
    have : ¬ lp g < p := fun q => h3 _ q q1 q2
    omega
theorem nI_m1 {a : Nat} (h : a < 2147483648) : ¬ nI a = -1 := by rw [m_neg h]; exact id
theorem X3_free_s {p g : Nat} {R : Nat → Nat} (hV : LV X m mos) (hm : m ≤ 9) (hL : LeV X m le) (hlt : ∀ p, p < m → le p < m) (hG : G ≤ 9) (hP : PlO m G mos le fp lp) (hp : p < m) (hS : rmS G fp lp p g R) (hR : RmV X 3 G fp p g 9 R) (k : ∀ l, l ≤ 9 → (∀ o, asg G fp p g o → p ≤ lp o → R o ≠ l) → (∀ n, n < l → ∃ o, asg G fp p g o ∧ p ≤ lp o ∧ R o = n) → Q (.inl (some (.int (nI l)))) (LX3 ++ r) X Y) : tX3_freeRoom [.ref 0, .int (nI p)] (LX3 ++ r) X Y Q := by
  have h9 := gSz_bd (P := asg G fp p g) (n := 9)
  apply tX3_freeRoom_i
  have H : ∀ n j h, j + n = 9 → h < 512 → (∀ x, Bs h x ↔ ∃ o, o < j ∧ asg G fp p g o ∧ p ≤ lp o ∧ R o = x) → hX3_freeRoom_4 Q r (nI p) (nI h) (nI j) X Y := by
    intro n
    induction n with
    | zero =>
      intro j h hj hh hI
      apply hX3_freeRoom_4_i
      refine ⟨fun _ => ?_, fun h => absurd ((m_le (by omega) (by omega)).mpr (by omega)) h⟩
      obtain ⟨l1, l2, l3⟩ := lz_ok ⟨h, hh⟩
      have l4 := lz_low ⟨h, hh⟩
      simp only at l1 l2 l3 l4
      apply tX8_lowest_i
      rw [l4]
      refine bc64 (by have := Nat.pow_lt_pow_right (a := 2) (by omega) (show lz h < 63 by omega); omega) (cK1_mk ?_)
      rw [cnt_low ⟨lz h, by omega⟩]
      refine cK1_mk (k (lz h) l3 (fun o q1 q2 e => ?_) (fun x hx => ?_))
      · have := (hI (lz h)).mpr ⟨o, by have := q1.1; omega, q1, q2, e⟩
        exact absurd this (bsF.mpr l1)
      · obtain ⟨o, -, q⟩ := (hI x).mp (l2 ⟨x, by omega⟩ hx)
        exact ⟨o, q⟩
    | succ n ih =>
      intro j h hj hh hI
      have hj9 : j < 9 := by omega
      have nx : (asg G fp p g j → p ≤ lp j → False) → hX3_freeRoom_4 Q r (nI p) (nI h) (nI (j + 1)) X Y := fun hn => ih (j + 1) h (by omega) hh (fun x => (hI x).trans ⟨fun ⟨o, q1, q2⟩ => ⟨o, by omega, q2⟩, fun ⟨o, q1, q2⟩ => ⟨o, by
        by_cases e : o = j
        · subst e; exact (hn q2.1 q2.2.1).elim
        · omega, q2⟩⟩)
      apply hX3_freeRoom_4_i
      simp (disch := omega) only [m_0, m_L0, m_lt, m_le, m_eq, m_neg, m_in, m_clamp, m_add, m_sub, m_pred, m_mul, m_l, m_i, m_Land, m_Lor, m_and, m_or, m_xor, m_Landn, m_andn, m_LshlP, m_shl, m_LbitP, m_bit, m_cmp0P, m_Lb0, m_Lb1, m_b0, m_b1, Nat.one_mul]
      refine ⟨fun h => by omega, fun _ => ⟨by omega, fun h1 => nx (fun q _ => nI_m1 (by have := hS.2 j q; omega) (((hR j hj9).1 q).symm.trans h1)), fun h1 => ?_⟩⟩
      have ha : asg G fp p g j := Classical.byContradiction fun q => h1 ((hR j hj9).2 q)
      have hRj := hS.2 j ha
      refine X3_last_s hV hm hL hlt (by omega) (fun z hz => cK1_mk ?_)
      have ez := PlO_l hP ha.1 hz
      subst ez
      have hlj := (hP j ha.1).2.1
      rw [m_zI]
      simp (disch := omega) only [m_0, m_L0, m_lt, m_le, m_eq, m_neg, m_in, m_clamp, m_add, m_sub, m_pred, m_mul, m_l, m_i, m_Land, m_Lor, m_and, m_or, m_xor, m_Landn, m_andn, m_LshlP, m_shl, m_LbitP, m_bit, m_cmp0P, m_Lb0, m_Lb1, m_b0, m_b1, Nat.one_mul, (hR j hj9).1 ha]
      refine ⟨fun h2 => nx (fun _ q => by omega), fun h2 => ⟨by omega, ih (j + 1) _ (by omega) (Nat.or_lt_two_pow (n := 9) hh (Nat.pow_lt_pow_right (a := 2) (by omega) (by omega))) (fun x => ?_)⟩⟩
      show (h ||| 2 ^ R j).testBit x = true ↔ _
      rw [or_bitT]
      constructor
      · rintro (q | q)
        · obtain ⟨o, q1, q2⟩ := (hI x).mp q
          exact ⟨o, by omega, q2⟩
        · exact ⟨j, by omega, ha, by omega, q⟩
      · rintro ⟨o, q1, q2⟩
        by_cases e : o = j
        · subst e; exact Or.inr q2.2.2
        · exact Or.inl ((hI x).mpr ⟨o, by omega, q2⟩)
  exact H 9 0 0 (by omega) (by omega) (fun x => ⟨fun q => by simp [Bs] at q, fun ⟨o, q, _⟩ => by omega⟩)
theorem X3_rooms_s (hV : LV X m mos) (hm : m ≤ 9) (hL : LeV X m le) (hlt : ∀ p, p < m → le p < m) (hG : G ≤ 9) (hP : PlO m G mos le fp lp) (k : ∀ X' R, (∀ c, c ≠ 3 → X' c = X c) → rmD (fun g => g < G) fp lp R → (∀ g, g < G → X' 3 g = nI (R g) ∧ R g < 9) → Q (.inl none) (LX3 ++ r) X' Y) : tX3_giveRooms [.ref 0, .int (nI G)] (LX3 ++ r) X Y Q := by
  apply tX3_giveRooms_i
  have H : ∀ n p X' R, p + n = m → (∀ c, c ≠ 3 → X' c = X c) → rmS G fp lp p 0 R → RmV X' 3 G fp p 0 9 R → hX3_giveRooms_23 Q r (nI G) (nI p) X' Y := by
    intro n
    induction n with
    | zero =>
      intro p X' R hp f1 hS hR
      have e : p = m := by omega
      subst e
      have ea : ∀ o, asg G fp p 0 o ↔ o < G := fun o => ⟨fun q => q.1, fun q => ⟨q, Or.inl (hP o q).1.1⟩⟩
      have ef : asg G fp p 0 = fun g => g < G := funext fun o => propext (ea o)
      apply hX3_giveRooms_23_i
      simp (disch := omega) only [m_0, m_L0, m_lt, m_le, m_eq, m_neg, m_in, m_clamp, m_add, m_sub, m_pred, m_mul, m_l, m_i, m_Land, m_Lor, m_and, m_or, m_xor, m_Landn, m_andn, m_LshlP, m_shl, m_LbitP, m_bit, m_cmp0P, m_Lb0, m_Lb1, m_b0, m_b1, Nat.one_mul, f1 0 (by omega), hV.2.1]
      refine ⟨fun _ => k X' R f1 (ef ▸ hS.1) (fun g hg => ⟨(hR g (by omega)).1 ((ea g).mpr hg), ?_⟩), fun h => by omega⟩
      have h1 := hS.2 g ((ea g).mpr hg)
      have := gSz_bd (P := asg G fp p 0) (n := 9)
      omega
    | succ n ih =>
      intro p X' R hp f1 hS hR
      have hpm : p < m := by omega
      apply hX3_giveRooms_23_i
      simp (disch := omega) only [m_0, m_L0, m_lt, m_le, m_eq, m_neg, m_in, m_clamp, m_add, m_sub, m_pred, m_mul, m_l, m_i, m_Land, m_Lor, m_and, m_or, m_xor, m_Landn, m_andn, m_LshlP, m_shl, m_LbitP, m_bit, m_cmp0P, m_Lb0, m_Lb1, m_b0, m_b1, Nat.one_mul, f1 0 (by omega), hV.2.1]
      refine ⟨fun h => by omega, fun _ => ⟨fun h => by omega, fun _ => ?_⟩⟩
      have G1 : ∀ q i X' R, i + q = G → (∀ c, c ≠ 3 → X' c = X c) → rmS G fp lp p i R → RmV X' 3 G fp p i 9 R → hX3_giveRooms_39 Q r (nI G) (nI p) (nI i) X' Y := by
        intro q
        induction q with
        | zero =>
          intro i X' R hi f1 hS hR
          have hS' := rmS_next hS (by omega)
          have fin : hX3_giveRooms_23 Q r (nI G) (nI (p + 1)) X' Y := by
            refine ih (p + 1) X' R (by omega) f1 hS' (fun o ho => ?_)
            have : asg G fp (p + 1) 0 o ↔ asg G fp p i o := ⟨fun q => ⟨q.1, by have := q.2; have := q.1; omega⟩, fun q => ⟨q.1, by have := q.2; have := q.1; omega⟩⟩
            rw [this]; exact hR o ho
          apply hX3_giveRooms_39_i
          simp (disch := omega) only [m_0, m_L0, m_lt, m_le, m_eq, m_neg, m_in, m_clamp, m_add, m_sub, m_pred, m_mul, m_l, m_i, m_Land, m_Lor, m_and, m_or, m_xor, m_Landn, m_andn, m_LshlP, m_shl, m_LbitP, m_bit, m_cmp0P, m_Lb0, m_Lb1, m_b0, m_b1, Nat.one_mul]
          exact ⟨fun _ => fin, fun h => by omega⟩
        | succ q ihq =>
          intro i X' R hi f1 hS hR
          have hiG : i < G := by omega
          have hi9 : i < 9 := by omega
          have hV' : LV X' m mos := by unfold LV; rw [f1 0 (by omega), f1 1 (by omega)]; exact hV
          have hL' : LeV X' m le := by unfold LeV; rw [f1 2 (by omega)]; exact hL
          have skip : fp i ≠ p → hX3_giveRooms_39 Q r (nI G) (nI p) (nI (i + 1)) X' Y := fun hne => by
            refine ihq (i + 1) X' R (by omega) f1 (rmS_skip hS (Or.inl hne)) (fun o ho => ?_)
            have : asg G fp p (i + 1) o ↔ asg G fp p i o := ⟨fun q => ⟨q.1, q.2.imp id (fun z => ⟨z.1, by
              by_cases e : o = i
              · subst e; exact absurd z.1 hne
              · omega⟩)⟩, fun q => ⟨q.1, q.2.imp id (fun z => ⟨z.1, by omega⟩)⟩⟩
            rw [this]; exact hR o ho
          have hpl := hP i hiG
          have hl := hlt p hpm
          have h1 := hV'.2.2 _ hl
          have h27 := hV.1
          apply hX3_giveRooms_39_i
          simp (disch := omega) only [m_0, m_L0, m_lt, m_le, m_eq, m_neg, m_in, m_clamp, m_add, m_sub, m_pred, m_mul, m_l, m_i, m_Land, m_Lor, m_and, m_or, m_xor, m_Landn, m_andn, m_LshlP, m_shl, m_LbitP, m_bit, m_cmp0P, m_Lb0, m_Lb1, m_b0, m_b1, Nat.one_mul]
          refine ⟨fun h => by omega, fun _ => ⟨fun h => by omega, fun _ => ⟨by omega, fun ha => skip (fun e => ?_), fun ha => ?_⟩⟩⟩
          · exact ha ((hR i hi9).2 (fun q => by have := q.2; omega))
          · have hna : ¬ asg G fp p i i := fun q => by
              have h2 := (hR i hi9).1 q
              have h3 := Classical.not_not.mp ha
              have h4 := hS.2 i q
              have := gSz_bd (P := asg G fp p i) (n := 9)
              exact nI_m1 (by omega) (h2.symm.trans h3)
            simp (disch := omega) only [m_0, m_L0, m_lt, m_le, m_eq, m_neg, m_in, m_clamp, m_add, m_sub, m_pred, m_mul, m_l, m_i, m_Land, m_Lor, m_and, m_or, m_xor, m_Landn, m_andn, m_LshlP, m_shl, m_LbitP, m_bit, m_cmp0P, m_Lb0, m_Lb1, m_b0, m_b1, Nat.one_mul, hL' p hpm, h1.1]
            refine ⟨by omega, by omega, fun hb => skip (fun e => ?_), fun hb => ?_⟩
            · have := hpl.1.2.1
              rw [e] at this
              exact absurd this (bsF.mpr hb)
            · have hfp : fp i = p := by
                have h2 : ¬ fp i < p := fun q => hna ⟨hiG, Or.inl q⟩
                have h3 : ¬ p < fp i := fun q => hpl.1.2.2 p q (nz_nz hb)
                omega
              refine X3_free_s hV' hm hL' hlt hG hP hpm hS hR (fun l l9 q1 q2 => cK1_mk ⟨by omega, ?_⟩)
              obtain ⟨g1, g2⟩ := rmS_put hG hS hiG hfp q1 q2
              refine ihq (i + 1) _ _ (by omega) (fun c hc => by rw [up2_row hc]; exact f1 c hc) g1 (fun o ho => ?_)
              by_cases e : o = i
              · subst e
                refine ⟨fun _ => by rw [up2_same, if_pos rfl], fun h => absurd ⟨hiG, Or.inr ⟨hfp, by omega⟩⟩ h⟩
              · have : asg G fp p (i + 1) o ↔ asg G fp p i o := ⟨fun q => ⟨q.1, q.2.imp id (fun z => ⟨z.1, by omega⟩)⟩, fun q => ⟨q.1, q.2.imp id (fun z => ⟨z.1, by omega⟩)⟩⟩
                rw [this, up2_idx e, if_neg e]; exact hR o ho
      exact G1 G 0 X' R (Nat.zero_add _) f1 hS hR
  have Z : ∀ n j X', j + n = 9 → (∀ c, c ≠ 3 → X' c = X c) → (∀ o, o < j → X' 3 o = -1) → hX3_giveRooms_2 Q r (nI G) (nI j) X' Y := by
    intro n
    have na : ∀ o, ¬ asg G fp 0 0 o := fun o q => by have := q.2; omega
    induction n with
    | zero =>
      intro j X' hj f1 h3
      have fin : hX3_giveRooms_23 Q r (nI G) (nI 0) X' Y := H m 0 X' (fun _ => 0) (Nat.zero_add _) f1 ⟨fun g q => absurd q (na g), fun g q => absurd q (na g)⟩ (fun o ho => ⟨fun q => absurd q (na o), fun _ => h3 o (by omega)⟩)
      apply hX3_giveRooms_2_i
      simp (disch := omega) only [m_0, m_L0, m_lt, m_le, m_eq, m_neg, m_in, m_clamp, m_add, m_sub, m_pred, m_mul, m_l, m_i, m_Land, m_Lor, m_and, m_or, m_xor, m_Landn, m_andn, m_LshlP, m_shl, m_LbitP, m_bit, m_cmp0P, m_Lb0, m_Lb1, m_b0, m_b1, Nat.one_mul]
      exact ⟨fun _ => fin, fun h => by omega⟩
    | succ n ih =>
      intro j X' hj f1 h3
      apply hX3_giveRooms_2_i
      simp (disch := omega) only [m_0, m_L0, m_lt, m_le, m_eq, m_neg, m_in, m_clamp, m_add, m_sub, m_pred, m_mul, m_l, m_i, m_Land, m_Lor, m_and, m_or, m_xor, m_Landn, m_andn, m_LshlP, m_shl, m_LbitP, m_bit, m_cmp0P, m_Lb0, m_Lb1, m_b0, m_b1, Nat.one_mul]
      refine ⟨fun h => by omega, fun _ => ⟨by omega, ih (j + 1) _ (by omega) (fun c hc => by rw [up2_row hc]; exact f1 c hc) (fun o ho => ?_)⟩⟩
      by_cases e : o = j
      · rw [e, up2_same]
      · rw [up2_idx e]; exact h3 o (by omega)
  exact Z 9 0 X (by omega) (fun _ _ => rfl) (fun o ho => by omega)
end Rooms
