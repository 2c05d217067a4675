/-! a text, thing by thing: what both sides read; the class' Reader, its leaves -/
def zsg (t : Tp) (i : Nat) : Nat := if i < t.1 then t.2 i else 256
def zsI (t : Tp) (i : Nat) : Int32 := if i < t.1 then nI (t.2 i) else -1
def zLt (c : Nat) : Prop := 97 ≤ c ∧ c ≤ 122
def zDg (c : Nat) : Prop := 48 ≤ c ∧ c ≤ 57
def zBl (c : Nat) : Prop := c = 32
noncomputable def zrn (P : Nat → Prop) (t : Tp) : Nat → Nat → Nat
  | 0, i => i
  | k + 1, i => cif (P (zsg t i)) (zrn P t k (i + 1)) i
noncomputable def zen (P : Nat → Prop) (t : Tp) (i : Nat) : Nat := zrn P t (t.1 - i) i
theorem zLt6 : ¬ zLt 256 := fun h => by unfold zLt at h; omega
theorem zDg6 : ¬ zDg 256 := fun h => by unfold zDg at h; omega
theorem zBl6 : ¬ zBl 256 := fun h => by unfold zBl at h; omega
section Zen
variable {P : Nat → Prop} {t : Tp} {i : Nat}
theorem zsg_in (h : zsg t i ≠ 256) : i < t.1 := by
  by_cases q : i < t.1
  · exact q
  · exact absurd (if_neg q) h
theorem zsg_e (h : i < t.1) : zsg t i = t.2 i := if_pos h
theorem zsg_o (h : t.1 ≤ i) : zsg t i = 256 := if_neg (by omega)
theorem zsI_e (h : i < t.1) : zsI t i = nI (t.2 i) := if_pos h
theorem zsI_o (h : t.1 ≤ i) : zsI t i = -1 := if_neg (by omega)
theorem zen_in (h6 : ¬ P 256) (h : P (zsg t i)) : i < t.1 := zsg_in (fun e => h6 (by rw [e] at h; exact h))
theorem zen_y (h6 : ¬ P 256) (h : P (zsg t i)) : zen P t i = zen P t (i + 1) := by
  have hi : i < t.1 := zen_in h6 h
  unfold zen
  rw [show t.1 - i = t.1 - (i + 1) + 1 by omega]
  exact cif_y h
theorem zen_n (h : ¬ P (zsg t i)) : zen P t i = i := by
  unfold zen
  cases t.1 - i with
  | zero => rfl
  | succ k => exact cif_n h
theorem zen_sp (h6 : ¬ P 256) : ∀ m i, t.1 - i = m → i ≤ zen P t i ∧ (i ≤ t.1 → zen P t i ≤ t.1) ∧ (∀ j, i ≤ j → j < zen P t i → P (zsg t j)) ∧ ¬ P (zsg t (zen P t i)) := by
  intro m
  induction m with
  | zero =>
    intro i e
    have n : ¬ P (zsg t i) := by rw [zsg_o (by omega)]; exact h6
    rw [zen_n n]
    exact ⟨by omega, fun h => h, fun j h1 h2 => by omega, n⟩
  | succ m ih =>
    intro i e
    by_cases q : P (zsg t i)
    · obtain ⟨a1, a2, a3, a4⟩ := ih (i + 1) (by omega)
      rw [zen_y h6 q]
      refine ⟨by omega, fun _ => a2 (by omega), fun j h1 h2 => ?_, a4⟩
      by_cases e2 : j = i
      · subst e2; exact q
      · exact a3 j (by omega) h2
    · rw [zen_n q]; exact ⟨by omega, fun h => h, fun j h1 h2 => by omega, q⟩
end Zen
/-- a word of the text from b to e is the i-th -/
def zWd (t : Tp) (b e i : Nat) : Prop := e - b = lenPS.getD i 0 ∧ ∀ k, k < lenPS.getD i 0 → zsI t (b + k) = (bytPS.getD i []).getD k 0
noncomputable def zWv (t : Tp) (b e : Nat) : Nat := cif (zWd t b e 0) 0 (cif (zWd t b e 1) 1 (cif (zWd t b e 2) 2 (cif (zWd t b e 3) 3 (cif (zWd t b e 4) 4 (cif (zWd t b e 5) 5 6)))))
def zNv (t : Tp) (b e : Nat) : Int32 := if e = b + 1 then nI (t.2 b - 48) else if e = b + 2 then nI (10 * (t.2 b - 48) + (t.2 (b + 1) - 48)) else -1
/-- the thing at b, where the next one may begin, what it says -/
noncomputable def zth (t : Tp) (b : Nat) : Nat := cif (t.1 ≤ b) 0 (cif (zLt (zsg t b)) 1 (cif (zDg (zsg t b)) 2 (cif (zsg t b = 59) 3 4)))
noncomputable def znx (t : Tp) (b : Nat) : Nat := cif (t.1 ≤ b) b (cif (zLt (zsg t b)) (zen zLt t b) (cif (zDg (zsg t b)) (zen zDg t b) (b + 1)))
noncomputable def zva (t : Tp) (b : Nat) : Int32 := cif (t.1 ≤ b) (-1) (cif (zLt (zsg t b)) (nI (zWv t b (zen zLt t b))) (cif (zDg (zsg t b)) (zNv t b (zen zDg t b)) (-1)))
def Eq6 (X X' : HX) (Y Y' : HY) : Prop := ∀ c, c < 8 → X' c = X c ∧ Y' c = Y c
theorem Eq6.rfl {X : HX} {Y : HY} : Eq6 X X Y Y := fun _ _ => ⟨Eq.refl _, Eq.refl _⟩
theorem Eq6.trans {X X1 X2 : HX} {Y Y1 Y2 : HY} (h : Eq6 X X1 Y Y1) (k : Eq6 X1 X2 Y1 Y2) : Eq6 X X2 Y Y2 := fun c hc => ⟨(k c hc).1.trans (h c hc).1, (k c hc).2.trans (h c hc).2⟩
theorem Eq6.mg {X : HX} {Y : HY} (sel : List Nat) : Eq6 X (mg sel (LX6 ++ []).length X (sb sel X)) Y (mg sel (LX6 ++ []).length Y (sb sel Y)) := fun c hc => ⟨mg_sb (show c < 8 from hc), mg_sb (show c < 8 from hc)⟩
/-- the Reader's TAPE -/
def TV6 (X : HX) (t : Tp) : Prop := t.1 ≤ 400 ∧ X 6 1 = nI t.1 ∧ ∀ i, i < t.1 → X 7 i = sby (t.2 i) ∧ t.2 i < 256
theorem TV6.eq {X X' : HX} {t : Tp} (h : TV6 X t) (e1 : X' 6 = X 6) (e2 : X' 7 = X 7) : TV6 X' t := by
  unfold TV6 at h ⊢
  rw [e1, e2]; exact h
theorem TV6.q {X X' : HX} {Y Y' : HY} {t : Tp} (h : TV6 X t) (e : Eq6 X X' Y Y') : TV6 X' t := h.eq (e 6 (by omega)).1 (e 7 (by omega)).1
section R6
variable {t : Tp} {X X' : HX} {Y Y' : HY} {Q : Qt} {b e : Nat}
theorem Q6_at {i : Nat} (ht : TV6 X t) (hi : i < 2147483648) {C : Int32 → HX → HY → Prop} (k : ∀ X' Y', Eq6 X X' Y Y' → C (zsI t i) X' Y') : tX7_at [.ref 0, .int (nI i)] (LX7 ++ []) (sb [6, 7] X) (sb [6, 7] Y) (cS1 (LX7 ++ []) (LX6 ++ []) [6, 7] (LX6 ++ []).length X Y Q C) := by
  obtain ⟨t4, t1, t2⟩ := ht
  apply tX7_at_i
  have c1 : sb [6, 7] X 0 1 = nI t.1 := t1
  have c2 : sb [6, 7] X 1 i = X 7 i := rfl
  rw [c1, m_clamp hi, c2, m_le (by omega) hi]
  refine ⟨fun q => absurd q (nI_nn hi), fun _ => ⟨fun q => ?_, fun q => ⟨(m_in hi).mpr (by omega), ?_⟩⟩⟩
  · have kx := k _ _ (Eq6.mg [6, 7])
    rw [zsI_o q] at kx; exact cS1_mk kx
  · have kx := k _ _ (Eq6.mg [6, 7])
    obtain ⟨e1, e2⟩ := t2 i (by omega)
    rw [e1, sby_255 _ e2]
    rw [zsI_e (by omega)] at kx; exact cS1_mk kx
theorem X6_isLetter_s {L : Ly} {i : Nat} (ht : TV6 X' t) (k : Q (.inl (some (.int (iB (zLt (zsg t i)))))) L X Y) : tX6_isLetter [.int (zsI t i)] L X Y Q := by
  apply tX6_isLetter_i
  by_cases q : i < t.1
  · have := (ht.2.2 i q).2
    rw [zsg_e q] at k
    rw [zsI_e q, m_lt (by omega) (by omega), m_lt (by omega) (by omega)]
    refine ⟨fun w => ⟨(by first | exact Or.inl rfl | exact Or.inr rfl | exact Or.inl trivial | exact Or.inr trivial), ?_⟩, fun w => ⟨fun w2 => ⟨(by first | exact Or.inl rfl | exact Or.inr rfl | exact Or.inl trivial | exact Or.inr trivial), ?_⟩, fun w2 => ⟨(by first | exact Or.inl rfl | exact Or.inr rfl | exact Or.inl trivial | exact Or.inr trivial), ?_⟩⟩⟩
    · rw [iB_n (fun h => by unfold zLt at h; omega)] at k; exact k
    · rw [iB_n (fun h => by unfold zLt at h; omega)] at k; exact k
    · rw [iB_y (by unfold zLt; omega)] at k; exact k
  · rw [zsg_o (by omega), iB_n zLt6] at k
    rw [zsI_o (by omega)]
    exact ⟨fun w => ⟨(by first | exact Or.inl rfl | exact Or.inr rfl | exact Or.inl trivial | exact Or.inr trivial), k⟩, fun w => absurd (by decide) w⟩
theorem X6_isDigit_s {L : Ly} {i : Nat} (ht : TV6 X' t) (k : Q (.inl (some (.int (iB (zDg (zsg t i)))))) L X Y) : tX6_isDigit [.int (zsI t i)] L X Y Q := by
  apply tX6_isDigit_i
  by_cases q : i < t.1
  · have := (ht.2.2 i q).2
    rw [zsg_e q] at k
    rw [zsI_e q, m_lt (by omega) (by omega), m_lt (by omega) (by omega)]
    refine ⟨fun w => ⟨(by first | exact Or.inl rfl | exact Or.inr rfl | exact Or.inl trivial | exact Or.inr trivial), ?_⟩, fun w => ⟨fun w2 => ⟨(by first | exact Or.inl rfl | exact Or.inr rfl | exact Or.inl trivial | exact Or.inr trivial), ?_⟩, fun w2 => ⟨(by first | exact Or.inl rfl | exact Or.inr rfl | exact Or.inl trivial | exact Or.inr trivial), ?_⟩⟩⟩
    · rw [iB_n (fun h => by unfold zDg at h; omega)] at k; exact k
    · rw [iB_n (fun h => by unfold zDg at h; omega)] at k; exact k
    · rw [iB_y (by unfold zDg; omega)] at k; exact k
  · rw [zsg_o (by omega), iB_n zDg6] at k
    rw [zsI_o (by omega)]
    exact ⟨fun w => ⟨(by first | exact Or.inl rfl | exact Or.inr rfl | exact Or.inl trivial | exact Or.inr trivial), k⟩, fun w => absurd (by decide) w⟩
theorem n1_0 : ¬ nI 1 = (0 : Int32) := by decide
theorem wend_go (hb : b ≤ 400) : ∀ m p j X Y, t.1 - p = m → TV6 X t → p = b + j → j ≤ 400 → (∀ X' Y', Eq6 X X' Y Y' → Q (.inl (some (.int (nI (zen zLt t p))))) (LX6 ++ []) X' Y') → hX6_wordEnd_7 Q (nI p) (nI j) X Y := by
  intro m
  induction m with
  | zero =>
    intro p j X Y em ht ep hj k
    have nb : ¬ zLt (zsg t p) := by rw [zsg_o (by omega)]; exact zLt6
    rw [zen_n nb] at k
    apply hX6_wordEnd_7_i
    refine ⟨fun _ => k X Y Eq6.rfl, fun _ => Q6_at ht (by omega) (fun X2 Y2 e2 => X6_isLetter_s (ht.q e2) (cK1_mk ?_))⟩
    rw [iB_n nb]
    exact ⟨fun _ => k X2 Y2 e2, fun q => absurd rfl q⟩
  | succ m ih =>
    intro p j X Y em ht ep hj k
    have t4 := ht.1
    apply hX6_wordEnd_7_i
    rw [m_le (by omega) (by omega)]
    refine ⟨fun q => by omega, fun _ => Q6_at ht (by omega) (fun X2 Y2 e2 => X6_isLetter_s (ht.q e2) (cK1_mk ?_))⟩
    by_cases w : zLt (zsg t p)
    · rw [iB_y w]
      refine ⟨fun q => absurd q n1_0, fun _ => ?_⟩
      rw [m_add p 1, m_add j 1]
      rw [zen_y zLt6 w] at k
      exact ih (p + 1) (j + 1) X2 Y2 (by omega) (ht.q e2) (by omega) (by omega) (fun X3 Y3 e3 => k X3 Y3 (e2.trans e3))
    · rw [iB_n w]
      rw [zen_n w] at k
      exact ⟨fun _ => k X2 Y2 e2, fun q => absurd rfl q⟩
theorem X6_wordEnd_s (hb : b ≤ 400) (ht : TV6 X t) (h9 : X 0 9 = nI b) (k : ∀ X' Y', Eq6 X X' Y Y' → Q (.inl (some (.int (nI (zen zLt t b))))) (LX6 ++ []) X' Y') : tX6_wordEnd [.ref 0] (LX6 ++ []) X Y Q := by
  apply tX6_wordEnd_i
  rw [h9]
  exact wend_go hb _ b 0 X Y rfl ht (by omega) (by omega) k
theorem nend_go (hb : b ≤ 400) : ∀ m p j X Y, t.1 - p = m → TV6 X t → p = b + j → j ≤ 400 → (∀ X' Y', Eq6 X X' Y Y' → Q (.inl (some (.int (nI (zen zDg t p))))) (LX6 ++ []) X' Y') → hX6_numberEnd_7 Q (nI p) (nI j) X Y := by
  intro m
  induction m with
  | zero =>
    intro p j X Y em ht ep hj k
    have nb : ¬ zDg (zsg t p) := by rw [zsg_o (by omega)]; exact zDg6
    rw [zen_n nb] at k
    apply hX6_numberEnd_7_i
    refine ⟨fun _ => k X Y Eq6.rfl, fun _ => Q6_at ht (by omega) (fun X2 Y2 e2 => X6_isDigit_s (ht.q e2) (cK1_mk ?_))⟩
    rw [iB_n nb]
    exact ⟨fun _ => k X2 Y2 e2, fun q => absurd rfl q⟩
  | succ m ih =>
    intro p j X Y em ht ep hj k
    have t4 := ht.1
    apply hX6_numberEnd_7_i
    rw [m_le (by omega) (by omega)]
    refine ⟨fun q => by omega, fun _ => Q6_at ht (by omega) (fun X2 Y2 e2 => X6_isDigit_s (ht.q e2) (cK1_mk ?_))⟩
    by_cases w : zDg (zsg t p)
    · rw [iB_y w]
      refine ⟨fun q => absurd q n1_0, fun _ => ?_⟩
      rw [m_add p 1, m_add j 1]
      rw [zen_y zDg6 w] at k
      exact ih (p + 1) (j + 1) X2 Y2 (by omega) (ht.q e2) (by omega) (by omega) (fun X3 Y3 e3 => k X3 Y3 (e2.trans e3))
    · rw [iB_n w]
      rw [zen_n w] at k
      exact ⟨fun _ => k X2 Y2 e2, fun q => absurd rfl q⟩
theorem X6_numberEnd_s (hb : b ≤ 400) (ht : TV6 X t) (h9 : X 0 9 = nI b) (k : ∀ X' Y', Eq6 X X' Y Y' → Q (.inl (some (.int (nI (zen zDg t b))))) (LX6 ++ []) X' Y') : tX6_numberEnd [.ref 0] (LX6 ++ []) X Y Q := by
  apply tX6_numberEnd_i
  rw [h9]
  exact nend_go hb _ b 0 X Y rfl ht (by omega) (by omega) k
theorem spelt_go {i : Nat} (hi : i < 6) (hbe : e - b = lenPS.getD i 0) (hb : b ≤ 400) : ∀ m j X Y, lenPS.getD i 0 - j = m → j ≤ lenPS.getD i 0 → TV6 X t → X 0 9 = nI b → (∀ k, k < j → zsI t (b + k) = (bytPS.getD i []).getD k 0) → (∀ X' Y', Eq6 X X' Y Y' → Q (.inl (some (.int (iB (zWd t b e i))))) (LX6 ++ []) X' Y') → hX6_isSpelt_20 Q (1000 + i) (nI j) X Y := by
  have hl : lenPS.getD i 0 ≤ 5 := by
    have : ∀ i, i < 6 → lenPS.getD i 0 ≤ 5 := by decide
    exact this i hi
  intro m
  induction m with
  | zero =>
    intro j X Y em hj ht h9 hp k
    apply hX6_isSpelt_20_i
    refine ⟨i, hi, rfl, cK1_mk ?_⟩
    rw [m_le (by omega) (by omega)]
    refine ⟨fun _ => ⟨(by first | exact Or.inl rfl | exact Or.inr rfl | exact Or.inl trivial | exact Or.inr trivial), ?_⟩, fun q => absurd (by omega) q⟩
    have kx := k X Y Eq6.rfl
    rw [iB_y ⟨hbe, fun k hk => hp k (by omega)⟩] at kx; exact kx
  | succ m ih =>
    intro j X Y em hj ht h9 hp k
    apply hX6_isSpelt_20_i
    refine ⟨i, hi, rfl, cK1_mk ?_⟩
    rw [m_le (by omega) (by omega)]
    refine ⟨fun q => absurd q (by omega), fun _ => ?_⟩
    rw [h9, m_add b j]
    refine Q6_at ht (by omega) (fun X2 Y2 e2 => ⟨i, j, hi, by omega, rfl, cK1_mk ⟨fun q => ?_, fun q => ⟨(by first | exact Or.inl rfl | exact Or.inr rfl | exact Or.inl trivial | exact Or.inr trivial), ?_⟩⟩⟩)
    · rw [m_add j 1]
      refine ih (j + 1) X2 Y2 (by omega) (by omega) (ht.q e2) (by rw [(e2 0 (by omega)).1]; exact h9) (fun k hk => ?_) (fun X3 Y3 e3 => k X3 Y3 (e2.trans e3))
      by_cases e4 : k = j
      · subst e4; exact q
      · exact hp k (by omega)
    · have kx := k X2 Y2 e2
      rw [iB_n (fun w => q (w.2 j (by omega)))] at kx; exact kx
theorem X6_isSpelt_s {i p : Nat} (hi : i < 6) (hp : p = 1000 + i) (hbe : b ≤ e) (he : e ≤ 400) (ht : TV6 X t) (h8 : X 0 8 = nI e) (h9 : X 0 9 = nI b) (k : ∀ X' Y', Eq6 X X' Y Y' → Q (.inl (some (.int (iB (zWd t b e i))))) (LX6 ++ []) X' Y') : tX6_isSpelt [.ref 0, .ref p] (LX6 ++ []) X Y Q := by
  subst hp
  have hl : lenPS.getD i 0 ≤ 5 := by
    have : ∀ i, i < 6 → lenPS.getD i 0 ≤ 5 := by decide
    exact this i hi
  apply tX6_isSpelt_i
  refine ⟨i, hi, rfl, cK1_mk ?_⟩
  rw [h8, h9, m_sub hbe, m_eq (by omega) (by omega)]
  refine ⟨fun q => spelt_go hi q (by omega) _ 0 X Y rfl (by omega) ht h9 (fun k hk => absurd hk (by omega)) k, fun q => ⟨(by first | exact Or.inl rfl | exact Or.inr rfl | exact Or.inl trivial | exact Or.inr trivial), ?_⟩⟩
  have kx := k X Y Eq6.rfl
  rw [iB_n (fun w => q w.1)] at kx; exact kx
theorem X6_wordRead_s (hbe : b ≤ e) (he : e ≤ 400) (ht : TV6 X t) (h8 : X 0 8 = nI e) (h9 : X 0 9 = nI b) (k : ∀ X' Y', Eq6 X X' Y Y' → Q (.inl (some (.int (nI (zWv t b e))))) (LX6 ++ []) X' Y') : tX6_wordRead [.ref 0] (LX6 ++ []) X Y Q := by
  have one : ∀ i p (X1 : HX) (Y1 : HY) (C : Int32 → HX → HY → Prop), i < 6 → p = 1000 + i → Eq6 X X1 Y Y1 → (∀ X2 Y2, Eq6 X X2 Y Y2 → (¬ zWd t b e i → C (nI 0) X2 Y2) ∧ (zWd t b e i → C (nI 1) X2 Y2)) → tX6_isSpelt [.ref 0, .ref p] (LX6 ++ []) X1 Y1 (cK1 (LX6 ++ []) Q C) := by
    intro i p X1 Y1 C hi hp e1 hC
    refine X6_isSpelt_s hi hp hbe he (ht.q e1) (by rw [(e1 0 (by omega)).1]; exact h8) (by rw [(e1 0 (by omega)).1]; exact h9) (fun X2 Y2 e2 => cK1_mk ?_)
    by_cases w : zWd t b e i
    · rw [iB_y w]; exact (hC X2 Y2 (e1.trans e2)).2 w
    · rw [iB_n w]; exact (hC X2 Y2 (e1.trans e2)).1 w
  apply tX6_wordRead_i
  refine one 0 _ X Y _ (by omega) rfl Eq6.rfl (fun X1 Y1 e1 => ⟨fun w0 => ⟨fun _ => ?_, fun q => absurd rfl q⟩, fun w0 => ⟨fun q => absurd q n1_0, fun _ => ?_⟩⟩)
  rotate_left
  · have kx := k X1 Y1 e1; rw [show zWv t b e = 0 from cif_y w0] at kx; exact kx
  refine one 1 _ X1 Y1 _ (by omega) rfl e1 (fun X1 Y1 e1 => ⟨fun w1 => ⟨fun _ => ?_, fun q => absurd rfl q⟩, fun w1 => ⟨fun q => absurd q n1_0, fun _ => ?_⟩⟩)
  rotate_left
  · have kx := k X1 Y1 e1; rw [show zWv t b e = 1 from (cif_n w0).trans (cif_y w1)] at kx; exact kx
  refine one 2 _ X1 Y1 _ (by omega) rfl e1 (fun X1 Y1 e1 => ⟨fun w2 => ⟨fun _ => ?_, fun q => absurd rfl q⟩, fun w2 => ⟨fun q => absurd q n1_0, fun _ => ?_⟩⟩)
  rotate_left
  · have kx := k X1 Y1 e1; rw [show zWv t b e = 2 from (cif_n w0).trans ((cif_n w1).trans (cif_y w2))] at kx; exact kx
  refine one 3 _ X1 Y1 _ (by omega) rfl e1 (fun X1 Y1 e1 => ⟨fun w3 => ⟨fun _ => ?_, fun q => absurd rfl q⟩, fun w3 => ⟨fun q => absurd q n1_0, fun _ => ?_⟩⟩)
  rotate_left
  · have kx := k X1 Y1 e1; rw [show zWv t b e = 3 from (cif_n w0).trans ((cif_n w1).trans ((cif_n w2).trans (cif_y w3)))] at kx; exact kx
  refine one 4 _ X1 Y1 _ (by omega) rfl e1 (fun X1 Y1 e1 => ⟨fun w4 => ⟨fun _ => ?_, fun q => absurd rfl q⟩, fun w4 => ⟨fun q => absurd q n1_0, fun _ => ?_⟩⟩)
  rotate_left
  · have kx := k X1 Y1 e1; rw [show zWv t b e = 4 from (cif_n w0).trans ((cif_n w1).trans ((cif_n w2).trans ((cif_n w3).trans (cif_y w4))))] at kx; exact kx
  refine one 5 _ X1 Y1 _ (by omega) rfl e1 (fun X1 Y1 e1 => ⟨fun w5 => ⟨fun _ => ?_, fun q => absurd rfl q⟩, fun w5 => ⟨fun q => absurd q n1_0, fun _ => ?_⟩⟩)
  rotate_left
  · have kx := k X1 Y1 e1; rw [show zWv t b e = 5 from (cif_n w0).trans ((cif_n w1).trans ((cif_n w2).trans ((cif_n w3).trans ((cif_n w4).trans (cif_y w5)))))] at kx; exact kx
  · have kx := k X1 Y1 e1; rw [show zWv t b e = 6 from (cif_n w0).trans ((cif_n w1).trans ((cif_n w2).trans ((cif_n w3).trans ((cif_n w4).trans (cif_n w5)))))] at kx; exact kx
theorem X6_numberRead_s (hbe : b < e) (he : e ≤ t.1) (hd : ∀ j, b ≤ j → j < e → zDg (zsg t j)) (ht : TV6 X t) (h8 : X 0 8 = nI e) (h9 : X 0 9 = nI b) (k : ∀ X' Y', Eq6 X X' Y Y' → Q (.inl (some (.int (zNv t b e)))) (LX6 ++ []) X' Y') : tX6_numberRead [.ref 0] (LX6 ++ []) X Y Q := by
  have t4 := ht.1
  have dg : ∀ j, b ≤ j → j < e → 48 ≤ t.2 j ∧ t.2 j ≤ 57 := fun j h1 h2 => by
    have := hd j h1 h2
    rw [zsg_e (by omega)] at this; exact this
  apply tX6_numberRead_i
  rw [h8, m_sub (show 1 ≤ e by omega)]
  refine Q6_at ht (by omega) (fun X2 Y2 e2 => ?_)
  have g8 : X2 0 8 = nI e := by rw [(e2 0 (by omega)).1]; exact h8
  have g9 : X2 0 9 = nI b := by rw [(e2 0 (by omega)).1]; exact h9
  rw [g8, g9, m_sub (show b ≤ e by omega), m_eq (by omega) (by omega), m_eq (by omega) (by omega), zsI_e (by omega), m_sub (dg (e - 1) (by omega) (by omega)).1]
  refine ⟨fun w1 => ⟨fun w2 => ?_, fun w2 => ?_⟩, fun w1 => ?_⟩
  · have kx := k X2 Y2 e2
    rw [show zNv t b e = -1 from (if_neg (by omega)).trans (if_neg (by omega))] at kx; exact kx
  · have e3 : e = b + 2 := by omega
    subst e3
    refine Q6_at (ht.q e2) (by omega) (fun X3 Y3 e3 => ?_)
    rw [zsI_e (by omega), m_sub (dg b (by omega) (by omega)).1, m_mul, m_add]
    have kx := k X3 Y3 (e2.trans e3)
    rw [show zNv t b (b + 2) = nI (10 * (t.2 b - 48) + (t.2 (b + 1) - 48)) from (if_neg (by omega)).trans (if_pos rfl)] at kx; exact kx
  · have e3 : e = b + 1 := by omega
    subst e3
    have kx := k X2 Y2 e2
    rw [show zNv t b (b + 1) = nI (t.2 b - 48) from if_pos rfl] at kx; exact kx
/-- what step does behind the blanks -/
def stT (Q : Qt) (X : HX) (Y : HY) : Prop := tX7_at [.ref 0, .int ((up2 (up2 X 0 9 (X 0 8)) 0 11 (-1)) 0 8)] (LX7 ++ []) (sb [6, 7] (up2 (up2 X 0 9 (X 0 8)) 0 11 (-1))) (sb [6, 7] Y) (cS1 (LX7 ++ []) (LX6 ++ []) [6, 7] (LX6 ++ []).length (up2 (up2 X 0 9 (X 0 8)) 0 11 (-1)) Y Q (fun x2 X2 Y2 => (¬ x2 = (-1) → tX6_isLetter [.int x2] (LX6 ++ []) X2 Y2 (cK1 (LX6 ++ []) Q (fun x4 X4 Y4 => (x4 = 0 → tX6_isDigit [.int x2] (LX6 ++ []) X4 Y4 (cK1 (LX6 ++ []) Q (fun x6 X6 Y6 => (x6 = 0 → (¬ x2 = (nI 59) → Q (.inl none) (LX6 ++ []) (up2 (up2 X6 0 10 (nI 4)) 0 8 (((up2 X6 0 10 (nI 4)) 0 8) + (nI 1))) Y6) ∧ (¬ (¬ x2 = (nI 59)) → Q (.inl none) (LX6 ++ []) (up2 (up2 X6 0 10 (nI 3)) 0 8 (((up2 X6 0 10 (nI 3)) 0 8) + (nI 1))) Y6)) ∧ (¬ (x6 = 0) → tX6_numberEnd [.ref 0] (LX6 ++ []) (up2 X6 0 10 (nI 2)) Y6 (cK1 (LX6 ++ []) Q (fun x9 X9 Y9 => tX6_numberRead [.ref 0] (LX6 ++ []) (up2 X9 0 8 x9) Y9 (cK1 (LX6 ++ []) Q (fun x10 X10 Y10 => Q (.inl none) (LX6 ++ []) (up2 X10 0 11 x10) Y10)))))))) ∧ (¬ (x4 = 0) → tX6_wordEnd [.ref 0] (LX6 ++ []) (up2 X4 0 10 (nI 1)) Y4 (cK1 (LX6 ++ []) Q (fun x11 X11 Y11 => tX6_wordRead [.ref 0] (LX6 ++ []) (up2 X11 0 8 x11) Y11 (cK1 (LX6 ++ []) Q (fun x12 X12 Y12 => Q (.inl none) (LX6 ++ []) (up2 X12 0 11 x12) Y12)))))))) ∧ (¬ (¬ x2 = (-1)) → Q (.inl none) (LX6 ++ []) (up2 X2 0 10 (nI 0)) Y2)))
/-- all but what the Reader's step says -/
def Kp6 (X X' : HX) (Y Y' : HY) : Prop := (∀ c, c < 8 → (c ≠ 0 → X' c = X c) ∧ Y' c = Y c) ∧ ∀ i, i < 8 → X' 0 i = X 0 i
/-- the Reader stands at the thing at b -/
def At6 (t : Tp) (b : Nat) (X : HX) : Prop := X 0 9 = nI b ∧ X 0 8 = nI (znx t b) ∧ X 0 10 = nI (zth t b) ∧ X 0 11 = zva t b
theorem stT_s (hb : b ≤ t.1) (ht : TV6 X t) (h8 : X 0 8 = nI b) (k : ∀ X' Y', Kp6 X X' Y Y' → At6 t b X' → Q (.inl none) (LX6 ++ []) X' Y') : stT Q X Y := by
  have t4 := ht.1
  unfold stT
  have u0 : ∀ c, c ≠ 0 → up2 (up2 X 0 9 (X 0 8)) 0 11 (-1) c = X c := fun c hc => by rw [up2_row hc, up2_row hc]
  have u8 : up2 (up2 X 0 9 (X 0 8)) 0 11 (-1) 0 8 = nI b := by rw [up2_idx (by omega), up2_idx (by omega)]; exact h8
  have u9 : up2 (up2 X 0 9 (X 0 8)) 0 11 (-1) 0 9 = nI b := by rw [up2_idx (by omega), up2_same]; exact h8
  have u11 : up2 (up2 X 0 9 (X 0 8)) 0 11 (-1) 0 11 = -1 := up2_same
  have uk : ∀ i, i < 8 → up2 (up2 X 0 9 (X 0 8)) 0 11 (-1) 0 i = X 0 i := fun i hi => by rw [up2_idx (by omega), up2_idx (by omega)]
  generalize up2 (up2 X 0 9 (X 0 8)) 0 11 (-1) = Xa at *
  rw [u8]
  have ha : TV6 Xa t := ht.eq (u0 6 (by omega)) (u0 7 (by omega))
  refine Q6_at ha (by omega) (fun X2 Y2 e2 => ?_)
  have g0 : ∀ i, X2 0 i = Xa 0 i := fun i => by rw [(e2 0 (by omega)).1]
  by_cases wn : t.1 ≤ b
  · rw [zsI_o wn]
    refine ⟨fun q => absurd rfl q, fun _ => k _ _ ⟨fun c hc => ⟨fun hd => ?_, (e2 c hc).2⟩, fun i hi => ?_⟩ ⟨?_, ?_, ?_, ?_⟩⟩
    · rw [up2_row hd, (e2 c hc).1, u0 c hd]
    · rw [up2_idx (by omega), g0, uk i hi]
    · rw [up2_idx (by omega), g0, u9]
    · rw [up2_idx (by omega), g0, u8, show znx t b = b from cif_y wn]
    · rw [show zth t b = 0 from cif_y wn]; exact up2_same
    · rw [up2_idx (by omega), g0, u11, show zva t b = -1 from cif_y wn]
  have hb2 : b < t.1 := by omega
  have c6 := (ht.2.2 b hb2).2
  have zn : zsI t b = nI (t.2 b) := zsI_e hb2
  have zg : zsg t b = t.2 b := zsg_e hb2
  refine ⟨fun _ => ?_, fun q => absurd (fun z => by rw [zn, m_neg (by omega)] at z; exact z) q⟩
  refine X6_isLetter_s (ha.q e2) (cK1_mk ?_)
  by_cases wl : zLt (zsg t b)
  · rw [iB_y wl]
    refine ⟨fun q => absurd q n1_0, fun _ => ?_⟩
    have f0 : ∀ i, i ≠ 10 → up2 X2 0 10 (nI 1) 0 i = Xa 0 i := fun i hi => by rw [up2_idx hi, g0]
    have fc : ∀ c, c < 8 → c ≠ 0 → up2 X2 0 10 (nI 1) c = X c := fun c hc hd => by rw [up2_row hd, (e2 c hc).1, u0 c hd]
    have f10 : up2 X2 0 10 (nI 1) 0 10 = nI 1 := up2_same
    generalize up2 X2 0 10 (nI 1) = X3 at *
    obtain ⟨s1, s2, s3, s4⟩ := zen_sp (t := t) zLt6 (t.1 - b) b rfl
    have s2 := s2 (by omega)
    refine X6_wordEnd_s (b := b) (by omega) (ht.eq (fc 6 (by omega) (by omega)) (fc 7 (by omega) (by omega))) (by rw [f0 9 (by omega), u9]) (fun X4 Y4 e4 => cK1_mk ?_)
    refine X6_wordRead_s (b := b) (e := zen zLt t b) (t := t) s1 (by omega) (TV6.eq (ht.eq (fc 6 (by omega) (by omega)) (fc 7 (by omega) (by omega))) (by rw [up2_row (by omega), (e4 6 (by omega)).1]) (by rw [up2_row (by omega), (e4 7 (by omega)).1])) up2_same (by rw [up2_idx (by omega), (e4 0 (by omega)).1, f0 9 (by omega), u9]) (fun X5 Y5 e5 => cK1_mk ?_)
    have h5 : ∀ i, i ≠ 8 → X5 0 i = X3 0 i := fun i hi => by rw [(e5 0 (by omega)).1, up2_idx hi, (e4 0 (by omega)).1]
    refine k _ _ ⟨fun c hc => ⟨fun hd => ?_, ?_⟩, fun i hi => ?_⟩ ⟨?_, ?_, ?_, ?_⟩
    · rw [up2_row hd, (e5 c hc).1, up2_row hd, (e4 c hc).1, fc c hc hd]
    · rw [(e5 c hc).2, (e4 c hc).2, (e2 c hc).2]
    · rw [up2_idx (by omega), h5 i (by omega), f0 i (by omega), uk i hi]
    · rw [up2_idx (by omega), h5 9 (by omega), f0 9 (by omega), u9]
    · rw [up2_idx (by omega), (e5 0 (by omega)).1, up2_same, show znx t b = zen zLt t b from (cif_n wn).trans (cif_y wl)]
    · rw [up2_idx (by omega), h5 10 (by omega), f10, show zth t b = 1 from (cif_n wn).trans (cif_y wl)]
    · rw [up2_same, show zva t b = nI (zWv t b (zen zLt t b)) from (cif_n wn).trans (cif_y wl)]
  rw [iB_n wl]
  refine ⟨fun _ => ?_, fun q => absurd rfl q⟩
  refine X6_isDigit_s (ha.q e2) (cK1_mk ?_)
  by_cases wd : zDg (zsg t b)
  · rw [iB_y wd]
    refine ⟨fun q => absurd q n1_0, fun _ => ?_⟩
    have f0 : ∀ i, i ≠ 10 → up2 X2 0 10 (nI 2) 0 i = Xa 0 i := fun i hi => by rw [up2_idx hi, g0]
    have fc : ∀ c, c < 8 → c ≠ 0 → up2 X2 0 10 (nI 2) c = X c := fun c hc hd => by rw [up2_row hd, (e2 c hc).1, u0 c hd]
    have f10 : up2 X2 0 10 (nI 2) 0 10 = nI 2 := up2_same
    generalize up2 X2 0 10 (nI 2) = X3 at *
    obtain ⟨s1, s2, s3, s4⟩ := zen_sp (t := t) zDg6 (t.1 - b) b rfl
    have s2 := s2 (by omega)
    have s5 : b < zen zDg t b := by
      have := zen_y (t := t) zDg6 wd
      have s6 := (zen_sp (t := t) zDg6 (t.1 - (b + 1)) (b + 1) rfl).1
      omega
    refine X6_numberEnd_s (b := b) (by omega) (ht.eq (fc 6 (by omega) (by omega)) (fc 7 (by omega) (by omega))) (by rw [f0 9 (by omega), u9]) (fun X4 Y4 e4 => cK1_mk ?_)
    refine X6_numberRead_s (b := b) (e := zen zDg t b) (t := t) s5 s2 s3 (TV6.eq (ht.eq (fc 6 (by omega) (by omega)) (fc 7 (by omega) (by omega))) (by rw [up2_row (by omega), (e4 6 (by omega)).1]) (by rw [up2_row (by omega), (e4 7 (by omega)).1])) up2_same (by rw [up2_idx (by omega), (e4 0 (by omega)).1, f0 9 (by omega), u9]) (fun X5 Y5 e5 => cK1_mk ?_)
    have h5 : ∀ i, i ≠ 8 → X5 0 i = X3 0 i := fun i hi => by rw [(e5 0 (by omega)).1, up2_idx hi, (e4 0 (by omega)).1]
    refine k _ _ ⟨fun c hc => ⟨fun hd => ?_, ?_⟩, fun i hi => ?_⟩ ⟨?_, ?_, ?_, ?_⟩
    · rw [up2_row hd, (e5 c hc).1, up2_row hd, (e4 c hc).1, fc c hc hd]
    · rw [(e5 c hc).2, (e4 c hc).2, (e2 c hc).2]
    · rw [up2_idx (by omega), h5 i (by omega), f0 i (by omega), uk i hi]
    · rw [up2_idx (by omega), h5 9 (by omega), f0 9 (by omega), u9]
    · rw [up2_idx (by omega), (e5 0 (by omega)).1, up2_same, show znx t b = zen zDg t b from (cif_n wn).trans ((cif_n wl).trans (cif_y wd))]
    · rw [up2_idx (by omega), h5 10 (by omega), f10, show zth t b = 2 from (cif_n wn).trans ((cif_n wl).trans (cif_y wd))]
    · rw [up2_same, show zva t b = zNv t b (zen zDg t b) from (cif_n wn).trans ((cif_n wl).trans (cif_y wd))]
  rw [iB_n wd]
  refine ⟨fun _ => ?_, fun q => absurd rfl q⟩
  have fin : ∀ v, zth t b = v → Q (.inl none) (LX6 ++ []) (up2 (up2 X2 0 10 (nI v)) 0 8 (((up2 X2 0 10 (nI v)) 0 8) + (nI 1))) Y2 := by
    intro v hv
    refine k _ _ ⟨fun c hc => ⟨fun hd => ?_, (e2 c hc).2⟩, fun i hi => ?_⟩ ⟨?_, ?_, ?_, ?_⟩
    · rw [up2_row hd, up2_row hd, (e2 c hc).1, u0 c hd]
    · rw [up2_idx (by omega), up2_idx (by omega), g0, uk i hi]
    · rw [up2_idx (by omega), up2_idx (by omega), g0, u9]
    · rw [up2_same, up2_idx (by omega), g0, u8, m_add, show znx t b = b + 1 from (cif_n wn).trans ((cif_n wl).trans (cif_n wd))]
    · rw [up2_idx (by omega), up2_same, hv]
    · rw [up2_idx (by omega), up2_idx (by omega), g0, u11, show zva t b = -1 from (cif_n wn).trans ((cif_n wl).trans (cif_n wd))]
  rw [zn, m_eq (by omega) (by omega)]
  refine ⟨fun q => fin 4 ((cif_n wn).trans ((cif_n wl).trans ((cif_n wd).trans (cif_n (by rw [zg]; exact q))))), fun q => fin 3 ((cif_n wn).trans ((cif_n wl).trans ((cif_n wd).trans (cif_y (by rw [zg]; omega)))))⟩
theorem step_go (hp0 : b ≤ 400) : ∀ m p j X Y, t.1 - p = m → TV6 X t → p = b + j → p ≤ t.1 → j ≤ 400 → X 0 8 = nI p → (∀ X' Y', Kp6 X X' Y Y' → At6 t (zen zBl t p) X' → Q (.inl none) (LX6 ++ []) X' Y') → hX6_step_2 Q (nI j) X Y := by
  intro m
  induction m with
  | zero =>
    intro p j X Y em ht ep hp hj h8 k
    have t4 := ht.1
    have nb : ¬ zBl (zsg t p) := by rw [zsg_o (by omega)]; exact zBl6
    rw [zen_n nb] at k
    apply hX6_step_2_i
    refine ⟨fun _ => stT_s hp ht h8 k, fun _ => ?_⟩
    rw [h8]
    refine Q6_at ht (by omega) (fun X2 Y2 e2 => ?_)
    have h82 : X2 0 8 = nI p := by rw [(e2 0 (by omega)).1]; exact h8
    refine ⟨fun _ => stT_s hp (ht.q e2) h82 (fun X3 Y3 k3 => k X3 Y3 ⟨fun c hc => ⟨fun hd => ((k3.1 c hc).1 hd).trans (e2 c hc).1, (k3.1 c hc).2.trans (e2 c hc).2⟩, fun i hi => by rw [k3.2 i hi, (e2 0 (by omega)).1]⟩), fun q => absurd (fun z => by rw [zsI_o (by omega)] at z; revert z; decide) q⟩
  | succ m ih =>
    intro p j X Y em ht ep hp hj h8 k
    have t4 := ht.1
    apply hX6_step_2_i
    rw [m_le (by omega) (by omega)]
    refine ⟨fun q => by omega, fun _ => ?_⟩
    rw [h8]
    refine Q6_at ht (by omega) (fun X2 Y2 e2 => ?_)
    have h82 : X2 0 8 = nI p := by rw [(e2 0 (by omega)).1]; exact h8
    have c6 := (ht.2.2 p (by omega)).2
    rw [zsI_e (by omega), m_eq (by omega) (by omega)]
    have kk : ∀ X3 Y3, Kp6 X2 X3 Y2 Y3 → Kp6 X X3 Y Y3 := fun X3 Y3 k3 => ⟨fun c hc => ⟨fun hd => ((k3.1 c hc).1 hd).trans (e2 c hc).1, (k3.1 c hc).2.trans (e2 c hc).2⟩, fun i hi => by rw [k3.2 i hi, (e2 0 (by omega)).1]⟩
    refine ⟨fun q => ?_, fun q => ?_⟩
    · have nb : ¬ zBl (zsg t p) := by rw [zsg_e (by omega)]; exact q
      rw [zen_n nb] at k
      exact stT_s hp (ht.q e2) h82 (fun X3 Y3 k3 => k X3 Y3 (kk X3 Y3 k3))
    · have yb : zBl (zsg t p) := by rw [zsg_e (by omega)]; show t.2 p = 32; omega
      rw [zen_y zBl6 yb] at k
      rw [m_add j 1, h82, m_add p 1]
      refine ih (p + 1) (j + 1) _ Y2 (by omega) ((ht.q e2).eq (up2_row (by omega)) (up2_row (by omega))) (by omega) (by omega) (by omega) up2_same (fun X3 Y3 k3 => k X3 Y3 (kk X3 Y3 ⟨fun c hc => ⟨fun hd => ((k3.1 c hc).1 hd).trans (up2_row hd), (k3.1 c hc).2⟩, fun i hi => by rw [k3.2 i hi, up2_idx (by omega)]⟩))
/-- the next thing is read -/
theorem X6_step_s (ht : TV6 X t) (hb : b ≤ t.1) (h8 : X 0 8 = nI b) (k : ∀ X' Y', Kp6 X X' Y Y' → At6 t (zen zBl t b) X' → Q (.inl none) (LX6 ++ []) X' Y') : tX6_step [.ref 0] (LX6 ++ []) X Y Q := by
  have t4 := ht.1
  apply tX6_step_i
  exact step_go (b := b) (by omega) _ b 0 X Y rfl ht (by omega) hb (by omega) h8 k
end R6
