/-! one row for each instruction of the pure machine -/
def cK0 (L : Ly) (Q : Qt) (C : HX → HY → Prop) : Qt := fun res L2 X2 Y2 => L2 = L ∧ ((res = .inl none ∧ C X2 Y2) ∨ ∃ E, res = .inr E ∧ Q (.inr E) L X2 Y2)
def cK1 (L : Ly) (Q : Qt) (C : Int32 → HX → HY → Prop) : Qt := fun res L2 X2 Y2 => L2 = L ∧ ((∃ x, res = .inl (some (.int x)) ∧ C x X2 Y2) ∨ ∃ E, res = .inr E ∧ Q (.inr E) L X2 Y2)
def cK2 (L : Ly) (Q : Qt) (C : Int64 → HX → HY → Prop) : Qt := fun res L2 X2 Y2 => L2 = L ∧ ((∃ x, res = .inl (some (.long x)) ∧ C x X2 Y2) ∨ ∃ E, res = .inr E ∧ Q (.inr E) L X2 Y2)
def cS0 (Lc L2 : Ly) (sel : List Nat) (n : Nat) (X : HX) (Y : HY) (Q : Qt) (C : HX → HY → Prop) : Qt := fun res L3 X3 Y3 => L3 = Lc ∧ ((res = .inl none ∧ C (mg sel n X X3) (mg sel n Y Y3)) ∨ ∃ E, res = .inr E ∧ Q (.inr E) L2 (mg sel n X X3) (mg sel n Y Y3))
def cS1 (Lc L2 : Ly) (sel : List Nat) (n : Nat) (X : HX) (Y : HY) (Q : Qt) (C : Int32 → HX → HY → Prop) : Qt := fun res L3 X3 Y3 => L3 = Lc ∧ ((∃ x, res = .inl (some (.int x)) ∧ C x (mg sel n X X3) (mg sel n Y Y3)) ∨ ∃ E, res = .inr E ∧ Q (.inr E) L2 (mg sel n X X3) (mg sel n Y Y3))
def cS2 (Lc L2 : Ly) (sel : List Nat) (n : Nat) (X : HX) (Y : HY) (Q : Qt) (C : Int64 → HX → HY → Prop) : Qt := fun res L3 X3 Y3 => L3 = Lc ∧ ((∃ x, res = .inl (some (.long x)) ∧ C x (mg sel n X X3) (mg sel n Y Y3)) ∨ ∃ E, res = .inr E ∧ Q (.inr E) L2 (mg sel n X X3) (mg sel n Y Y3))
section QQ
variable {g : Gm} {Q : Qt} {pc len : Nat} {lv : Lv} {st r : List Value} {L : Ly} {X : HX} {Y : HY} {z : Nat × Nat} {tg : List Nat} {kc : Int32} {i : Instr} {v : Value} {a f j m t0 : Nat} {x y : Int32} {u w : Int64} {off : Int}
set_option maxHeartbeats 2000000 in
theorem q_load (hg : Gmono g) (n : Nat) (hc : cdAt g.1 pc = some (i, len, tg, kc)) (hl : loadI i lv = some v) (hn : pc + len = n) (k : WPx g Q n lv (v :: st) L X Y z) : WPx g Q pc lv st L X Y z := by
  subst hn
  refine WPx.step hg ?_
  unfold stepP
  simp only [hc]
  cases i <;> first | (cases hl; done) | (simp only [hl]; exact k)
set_option maxHeartbeats 2000000 in
theorem q_store (hg : Gmono g) (n : Nat) (lv2 : Lv) (hc : cdAt g.1 pc = some (i, len, tg, kc)) (hl : storeI i lv v = some lv2) (hn : pc + len = n) (k : WPx g Q n lv2 st L X Y z) : WPx g Q pc lv (v :: st) L X Y z := by
  subst hn
  refine WPx.step hg ?_
  unfold stepP
  simp only [hc]
  cases i <;> first | (cases hl; done) | (simp only [loadI, hl]; exact k)
set_option maxHeartbeats 2000000 in
theorem q_pure (hg : Gmono g) (n : Nat) (st2 : List Value) (hc : cdAt g.1 pc = some (i, len, tg, kc)) (hl : pureI i kc st = some st2) (hn : pc + len = n) (k : WPx g Q n lv st2 L X Y z) : WPx g Q pc lv st L X Y z := by
  subst hn
  refine WPx.step hg ?_
  unfold stepP
  simp only [hc]
  cases i <;> first | (cases hl; done) | (cases st <;> simp only [loadI, storeI, hl] <;> exact k)
theorem q_goto (hg : Gmono g) (n : Nat) (hc : cdAt g.1 pc = some (.goto off, len, [n], kc)) (k : WPx g Q n lv st L X Y z) : WPx g Q pc lv st L X Y z := WPx.step hg (by simp only [stepP, hc]; exact k)
theorem q_icmp (hg : Gmono g) (t n : Nat) {c : ClassFile.Cond} (hc : cdAt g.1 pc = some (.if_icmp c off, len, [t], kc)) (hn : pc + len = n) (k1 : icm c x y → WPx g Q t lv r L X Y z) (k2 : ¬ icm c x y → WPx g Q n lv r L X Y z) : WPx g Q pc lv (.int y :: .int x :: r) L X Y z := by
  subst hn
  exact WPx.step hg (by simp only [stepP, hc]; exact ⟨k1, k2⟩)
theorem q_if (hg : Gmono g) (t n : Nat) {c : ClassFile.Cond} (hc : cdAt g.1 pc = some (.ifCond c off, len, [t], kc)) (hn : pc + len = n) (k1 : icm c x 0 → WPx g Q t lv r L X Y z) (k2 : ¬ icm c x 0 → WPx g Q n lv r L X Y z) : WPx g Q pc lv (.int x :: r) L X Y z := by
  subst hn
  exact WPx.step hg (by simp only [stepP, hc]; exact ⟨k1, k2⟩)
theorem q_nn (hg : Gmono g) (t : Nat) (hc : cdAt g.1 pc = some (.ifnonnull off, len, [t], kc)) (k : WPx g Q t lv r L X Y z) : WPx g Q pc lv (.ref a :: r) L X Y z := WPx.step hg (by simp only [stepP, hc]; exact k)
theorem q_nnN (hg : Gmono g) (t n : Nat) (hc : cdAt g.1 pc = some (.ifnonnull off, len, [t], kc)) (hn : pc + len = n) (k : WPx g Q n lv r L X Y z) : WPx g Q pc lv (.null :: r) L X Y z := by
  subst hn
  exact WPx.step hg (by simp only [stepP, hc]; exact k)
theorem q_lcmp (hg : Gmono g) (n : Nat) (hc : cdAt g.1 pc = some (.lcmp, len, tg, kc)) (hn : pc + len = n) (k : WPx g Q n lv (.int (lg_cmp u w) :: r) L X Y z) : WPx g Q pc lv (.long w :: .long u :: r) L X Y z := by
  subst hn
  exact WPx.step hg (by simp only [stepP, hc]; exact k)
theorem q_ts (hg : Gmono g) {d : Nat} {ts : List Nat} {lo hi : Int} {offs : Array Int} (hc : cdAt g.1 pc = some (.tableswitch off lo hi offs, len, d :: ts, kc)) (k0 : x.toInt < lo ∨ hi < x.toInt → WPx g Q d lv r L X Y z) (k1 : tswL (fun t => WPx g Q t lv r L X Y z) x lo ts) : WPx g Q pc lv (.int x :: r) L X Y z := WPx.step hg (by simp only [stepP, hc]; exact ⟨k0, k1⟩)
theorem q_idiv (hg : Gmono g) (n : Nat) (hc : cdAt g.1 pc = some (.idiv, len, tg, kc)) (hn : pc + len = n) (h : ¬ y = 0) (k : WPx g Q n lv (.int (x / y) :: r) L X Y z) : WPx g Q pc lv (.int y :: .int x :: r) L X Y z := by
  subst hn
  exact WPx.step hg (by simp only [stepP, hc]; exact ⟨h, k⟩)
theorem q_irem (hg : Gmono g) (n : Nat) (hc : cdAt g.1 pc = some (.irem, len, tg, kc)) (hn : pc + len = n) (h : ¬ y = 0) (k : WPx g Q n lv (.int (x - x / y * y) :: r) L X Y z) : WPx g Q pc lv (.int y :: .int x :: r) L X Y z := by
  subst hn
  exact WPx.step hg (by simp only [stepP, hc]; exact ⟨h, k⟩)
theorem q_iinc (hg : Gmono g) (n : Nat) (lv2 : Lv) {d : Int} (hc : cdAt g.1 pc = some (.iinc j d, len, tg, kc)) (hl : ldv lv j = some (.int x)) (h2 : lv.set j (some (.int (x + kc))) = lv2) (hn : pc + len = n) (k : WPx g Q n lv2 st L X Y z) : WPx g Q pc lv st L X Y z := by
  subst hn; subst h2
  exact WPx.step hg (by simp only [stepP, hc, hl]; exact k)
theorem q_ldc (hg : Gmono g) (n : Nat) (hc : cdAt g.1 pc = some (.ldc f, len, tg, kc)) (hv : g.2.2.2.2.2.1 f = some v) (hn : pc + len = n) (k : WPx g Q n lv (v :: st) L X Y z) : WPx g Q pc lv st L X Y z := by
  subst hn
  exact WPx.step hg (by simp only [stepP, hc, hv]; exact k)
theorem q_ldcw (hg : Gmono g) (n : Nat) (hc : cdAt g.1 pc = some (.ldc_w f, len, tg, kc)) (hv : g.2.2.2.2.2.1 f = some v) (hn : pc + len = n) (k : WPx g Q n lv (v :: st) L X Y z) : WPx g Q pc lv st L X Y z := by
  subst hn
  exact WPx.step hg (by simp only [stepP, hc, hv]; exact k)
theorem q_ldc2 (hg : Gmono g) (n : Nat) (hc : cdAt g.1 pc = some (.ldc2_w f, len, tg, kc)) (hv : g.2.2.2.2.2.1 f = some v) (hn : pc + len = n) (k : WPx g Q n lv (v :: st) L X Y z) : WPx g Q pc lv st L X Y z := by
  subst hn
  exact WPx.step hg (by simp only [stepP, hc, hv]; exact k)
theorem q_alen (hg : Gmono g) (n : Nat) (hc : cdAt g.1 pc = some (.arraylength, len, tg, kc)) (hL : L[a]? = some (.inr (t0, m))) (hn : pc + len = n) (k : WPx g Q n lv (.int (Int32.ofNat m) :: r) L X Y z) : WPx g Q pc lv (.ref a :: r) L X Y z := by
  subst hn
  exact WPx.step hg (by simp only [stepP, hc, hL]; exact k)
theorem q_iald (hg : Gmono g) (n : Nat) (hc : cdAt g.1 pc = some (.iaload, len, tg, kc)) (hL : L[a]? = some (.inr (0, m))) (hn : pc + len = n) (h : vp_in x m) (k : WPx g Q n lv (.int (X a x.toNatClampNeg) :: r) L X Y z) : WPx g Q pc lv (.int x :: .ref a :: r) L X Y z := by
  subst hn
  exact WPx.step hg (by simp only [stepP, hc, hL]; exact ⟨h, k⟩)
theorem q_bald2 (hg : Gmono g) (n : Nat) (hc : cdAt g.1 pc = some (.baload, len, tg, kc)) (hL : L[a]? = some (.inr (2, m))) (hn : pc + len = n) (h : vp_in x m) (k : WPx g Q n lv (.int (X a x.toNatClampNeg) :: r) L X Y z) : WPx g Q pc lv (.int x :: .ref a :: r) L X Y z := by
  subst hn
  exact WPx.step hg (by simp only [stepP, hc, hL]; exact ⟨h, k⟩)
theorem q_bald3 (hg : Gmono g) (n : Nat) (hc : cdAt g.1 pc = some (.baload, len, tg, kc)) (hL : L[a]? = some (.inr (3, m))) (hn : pc + len = n) (h : vp_in x m) (k : WPx g Q n lv (.int (X a x.toNatClampNeg) :: r) L X Y z) : WPx g Q pc lv (.int x :: .ref a :: r) L X Y z := by
  subst hn
  exact WPx.step hg (by simp only [stepP, hc, hL]; exact ⟨h, k⟩)
theorem q_lald (hg : Gmono g) (n : Nat) (hc : cdAt g.1 pc = some (.laload, len, tg, kc)) (hL : L[a]? = some (.inr (1, m))) (hn : pc + len = n) (h : vp_in x m) (k : WPx g Q n lv (.long (Y a x.toNatClampNeg) :: r) L X Y z) : WPx g Q pc lv (.int x :: .ref a :: r) L X Y z := by
  subst hn
  exact WPx.step hg (by simp only [stepP, hc, hL]; exact ⟨h, k⟩)
theorem q_iast (hg : Gmono g) (n : Nat) (hc : cdAt g.1 pc = some (.iastore, len, tg, kc)) (hL : L[a]? = some (.inr (0, m))) (hn : pc + len = n) (h : vp_in x m) (k : WPx g Q n lv r L (up2 X a x.toNatClampNeg y) Y z) : WPx g Q pc lv (.int y :: .int x :: .ref a :: r) L X Y z := by
  subst hn
  exact WPx.step hg (by simp only [stepP, hc, hL]; exact ⟨h, k⟩)
theorem q_bast2 (hg : Gmono g) (n : Nat) (hc : cdAt g.1 pc = some (.bastore, len, tg, kc)) (hL : L[a]? = some (.inr (2, m))) (hn : pc + len = n) (h : vp_in x m) (k : WPx g Q n lv r L (up2 X a x.toNatClampNeg (vp_nar .byte y)) Y z) : WPx g Q pc lv (.int y :: .int x :: .ref a :: r) L X Y z := by
  subst hn
  exact WPx.step hg (by simp only [stepP, hc, hL]; exact ⟨h, k⟩)
theorem q_bast3 (hg : Gmono g) (n : Nat) (hc : cdAt g.1 pc = some (.bastore, len, tg, kc)) (hL : L[a]? = some (.inr (3, m))) (hn : pc + len = n) (h : vp_in x m) (k : WPx g Q n lv r L (up2 X a x.toNatClampNeg (vp_nar .boolean y)) Y z) : WPx g Q pc lv (.int y :: .int x :: .ref a :: r) L X Y z := by
  subst hn
  exact WPx.step hg (by simp only [stepP, hc, hL]; exact ⟨h, k⟩)
theorem q_last (hg : Gmono g) (n : Nat) (hc : cdAt g.1 pc = some (.lastore, len, tg, kc)) (hL : L[a]? = some (.inr (1, m))) (hn : pc + len = n) (h : vp_in x m) (k : WPx g Q n lv r L X (up2 Y a x.toNatClampNeg u) z) : WPx g Q pc lv (.long u :: .int x :: .ref a :: r) L X Y z := by
  subst hn
  exact WPx.step hg (by simp only [stepP, hc, hL]; exact ⟨h, k⟩)
variable {ci : Nat} {sl : List Sk} {s : Sk}
theorem beqN (n : Nat) : Nat.beq n n = true := Nat.beq_refl n
theorem q_get (hg : Gmono g) (n : Nat) (v : Value) (hc : cdAt g.1 pc = some (.getfield f, len, tg, kc)) (hf : g.2.1 f = some (ci, j)) (hL : L[a]? = some (.inl (ci, sl))) (hs : sl[j]? = some s) (hv : fdV X Y a j s = v) (hn : pc + len = n) (k : WPx g Q n lv (v :: r) L X Y z) : WPx g Q pc lv (.ref a :: r) L X Y z := by
  subst hn; subst hv
  exact WPx.step hg (by simp only [stepP, hc, hf, hL, hs, beqN, goB]; exact k)
theorem q_putI (hg : Gmono g) (n : Nat) (hc : cdAt g.1 pc = some (.putfield f, len, tg, kc)) (hf : g.2.1 f = some (ci, j)) (hL : L[a]? = some (.inl (ci, sl))) (hs : sl[j]? = some (.inl 0)) (hk : skOk ci j (.inl 0) = true) (hn : pc + len = n) (k : WPx g Q n lv r L (up2 X a j x) Y z) : WPx g Q pc lv (.int x :: .ref a :: r) L X Y z := by
  subst hn
  exact WPx.step hg (by simp only [stepP, hc, hf, hL, hs, beqN, hk, Bool.and_self, goB]; exact k)
theorem q_putJ (hg : Gmono g) (n : Nat) (hc : cdAt g.1 pc = some (.putfield f, len, tg, kc)) (hf : g.2.1 f = some (ci, j)) (hL : L[a]? = some (.inl (ci, sl))) (hs : sl[j]? = some (.inl 1)) (hk : skOk ci j (.inl 1) = true) (hn : pc + len = n) (k : WPx g Q n lv r L X (up2 Y a j u) z) : WPx g Q pc lv (.long u :: .ref a :: r) L X Y z := by
  subst hn
  exact WPx.step hg (by simp only [stepP, hc, hf, hL, hs, beqN, hk, Bool.and_self, goB]; exact k)
theorem q_putZ (hg : Gmono g) (n : Nat) (hc : cdAt g.1 pc = some (.putfield f, len, tg, kc)) (hf : g.2.1 f = some (ci, j)) (hL : L[a]? = some (.inl (ci, sl))) (hs : sl[j]? = some (.inl 2)) (hk : skOk ci j (.inl 2) = true) (hn : pc + len = n) (h : x = 0 ∨ x = 1) (k : WPx g Q n lv r L (up2 X a j x) Y z) : WPx g Q pc lv (.int x :: .ref a :: r) L X Y z := by
  subst hn
  exact WPx.step hg (by simp only [stepP, hc, hf, hL, hs, beqN, hk, Bool.and_self, goB]; exact ⟨h, k⟩)
theorem q_putR (hg : Gmono g) (n : Nat) (L2 : Ly) {o : Option Nat} {b : Nat} (hc : cdAt g.1 pc = some (.putfield f, len, tg, kc)) (hf : g.2.1 f = some (ci, j)) (hL : L[a]? = some (.inl (ci, sl))) (hs : sl[j]? = some (.inr o)) (hk : skOk ci j (.inr none) = true) (hn : pc + len = n) (h2 : L.set a (.inl (ci, sl.set j (.inr (some b)))) = L2) (k : WPx g Q n lv r L2 X Y z) : WPx g Q pc lv (.ref b :: .ref a :: r) L X Y z := by
  subst hn; subst h2
  exact WPx.step hg (by simp only [stepP, hc, hf, hL, hs, beqN, hk, Bool.and_self, goB]; exact k)
theorem q_putN (hg : Gmono g) (n : Nat) (L2 : Ly) {o : Option Nat} (hc : cdAt g.1 pc = some (.putfield f, len, tg, kc)) (hf : g.2.1 f = some (ci, j)) (hL : L[a]? = some (.inl (ci, sl))) (hs : sl[j]? = some (.inr o)) (hk : skOk ci j (.inr none) = true) (hn : pc + len = n) (h2 : L.set a (.inl (ci, sl.set j (.inr none))) = L2) (k : WPx g Q n lv r L2 X Y z) : WPx g Q pc lv (.null :: .ref a :: r) L X Y z := by
  subst hn; subst h2
  exact WPx.step hg (by simp only [stepP, hc, hf, hL, hs, beqN, hk, Bool.and_self, goB]; exact k)
theorem q_thr (hg : Gmono g) {E : String} (hc : cdAt g.1 pc = some (.new f, len, tg, kc)) (hE : g.2.2.2.1 pc = some E) (hb : (Nat.ble (z.1 + 1) (gMc g) && Nat.ble (z.2 + 6) (gMs g) && Nat.ble (st.map fun v => v.category).sum 8) = true) (k : Q (.inr E) L X Y) : WPx g Q pc lv st L X Y z := WPx.step hg (by simp only [stepP, hc, hE, hb, goB]; exact k)
theorem q_new (hg : Gmono g) (n m : Nat) (L2 : Ly) (z2 : Nat × Nat) (hc : cdAt g.1 pc = some (.new f, len, tg, kc)) (hE : g.2.2.2.1 pc = none) (hN : g.2.2.2.2.1 f = some (ci, sl)) (hb : (Nat.ble (z.1 + 1) (gMc g) && Nat.ble (z.2 + sl.length) (gMs g) && Nat.ble L.length 999 && lv.all (okA L.length) && st.all (fun v => okA L.length (some v)) && L.all (okB L.length)) = true) (hn : pc + len = n) (hm : L.length = m) (h2 : L ++ [.inl (ci, sl)] = L2) (hz : (z.1 + 1, z.2 + sl.length) = z2) (k : WPx g Q n lv (.ref m :: st) L2 (upR X m) (upR Y m) z2) : WPx g Q pc lv st L X Y z := by
  subst hn; subst h2; subst hz; subst hm
  exact WPx.step hg (by simp only [stepP, hc, hE, hN, hb, goB]; exact k)
theorem q_newa (hg : Gmono g) (n m : Nat) (L2 : Ly) (z2 : Nat × Nat) {t : ArrayType} {tag : Nat} (hc : cdAt g.1 pc = some (.newarray t, len, tg, kc)) (hT : arT t = some tag) (hb : (Nat.ble (z.1 + 1) (gMc g) && Nat.ble L.length 999 && lv.all (okA L.length) && r.all (fun v => okA L.length (some v)) && L.all (okB L.length)) = true) (hn : pc + len = n) (hm : L.length = m) (h2 : L ++ [.inr (tag, x.toNatClampNeg)] = L2) (hz : (z.1 + 1, z.2 + x.toNatClampNeg) = z2) (h3 : ¬ x < 0) (h4 : Nat.ble x.toNatClampNeg 5000 = true) (h5 : Nat.ble (z.2 + x.toNatClampNeg) (gMs g) = true) (k : WPx g Q n lv (.ref m :: r) L2 (upR X m) (upR Y m) z2) : WPx g Q pc lv (.int x :: r) L X Y z := by
  subst hn; subst h2; subst hz; subst hm
  exact WPx.step hg (by simp only [stepP, hc, hT]; exact ⟨h3, Nat.le_of_ble_eq_true h4, Nat.le_of_ble_eq_true h5, by rw [hb]; exact k⟩)
theorem q_obi (hg : Gmono g) (n : Nat) (hc : cdAt g.1 pc = some (.invokespecial f, len, tg, kc)) (hN : g.2.2.1 pc = none) (hb : Nat.ble ((r.map fun v => v.category).sum) 8 = true) (hn : pc + len = n) (k : WPx g Q n lv r L X Y z) : WPx g Q pc lv (.ref a :: r) L X Y z := by
  subst hn
  exact WPx.step hg (by simp only [stepP, hc, hN, hb, goB]; exact k)
def isInv : Instr → Bool
  | .invokevirtual _ => true
  | .invokestatic _ => true
  | .invokespecial _ => true
  | _ => false
theorem q_inv (hg : Gmono g) {ce : Ce} (hc : cdAt g.1 pc = some (i, len, tg, kc)) (hi : isInv i = true) (hce : g.2.2.1 pc = some ce) (k : pmCall g Q (WPx g Q) pc len lv st L X Y z) : WPx g Q pc lv st L X Y z := by
  refine WPx.step hg ?_
  unfold stepP
  simp only [hc]
  unfold isInv at hi
  split at hi
  · exact k
  · exact k
  · simp only [hce]; exact k
  · cases hi
def qCk (g : Gm) (ce : Ce) (lv : Lv) (st : List Value) (L : Ly) (z : Nat × Nat) : Bool := rcOk ce.2.2.2.2.2 (st.take ce.2.1).reverse L && Nat.ble ce.2.1 st.length && Nat.ble (z.1 + ce.2.2.2.1.1) (gMc g) && Nat.ble (z.2 + ce.2.2.2.1.2) (gMs g) && Nat.ble (((st.drop ce.2.1).map fun v => v.category).sum) 8 && ceChk ce lv st L
variable {T : Tm} {na : Nat} {cs : Nat × Nat} {rc : Option Nat} {sel : List Nat} {Lc Lc2 L2 : Ly}
theorem q_call0 (hg : Gmono g) (n : Nat) (as : List Value) (z2 : Nat × Nat) {C : HX → HY → Prop} (hc : cdAt g.1 pc = some (i, len, tg, kc)) (hi : isInv i = true) (hce : g.2.2.1 pc = some (T, na, 0, cs, none, rc)) (hb : qCk g (T, na, 0, cs, none, rc) lv st L z = true) (hn : pc + len = n) (ha : (st.take na).reverse = as) (hr : st.drop na = r) (hz : (z.1 + cs.1, z.2 + cs.2) = z2)
    (h : T as L X Y (cK0 L Q C)) (k : ∀ X1 Y1, C X1 Y1 → WPx g Q n lv r L X1 Y1 z2) : WPx g Q pc lv st L X Y z := by
  subst hn; subst hz; subst ha; subst hr
  refine q_inv hg hc hi hce ?_
  unfold pmCall
  simp only [hce]
  unfold qCk at hb
  rw [hb]
  refine hg _ _ hce _ _ _ _ _ _ (fun res L2 X1 Y1 h9 => ?_) h
  obtain ⟨e, h9⟩ := h9
  refine ⟨e, ?_⟩
  rcases h9 with ⟨e1, h9⟩ | h9
  · exact Or.inl ⟨e1, k X1 Y1 h9⟩
  · exact Or.inr h9
theorem q_call1 (hg : Gmono g) (n : Nat) (as : List Value) (z2 : Nat × Nat) {C : Int32 → HX → HY → Prop} (hc : cdAt g.1 pc = some (i, len, tg, kc)) (hi : isInv i = true) (hce : g.2.2.1 pc = some (T, na, 1, cs, none, rc)) (hb : qCk g (T, na, 1, cs, none, rc) lv st L z = true) (hn : pc + len = n) (ha : (st.take na).reverse = as) (hr : st.drop na = r) (hz : (z.1 + cs.1, z.2 + cs.2) = z2)
    (h : T as L X Y (cK1 L Q C)) (k : ∀ x X1 Y1, C x X1 Y1 → WPx g Q n lv (.int x :: r) L X1 Y1 z2) : WPx g Q pc lv st L X Y z := by
  subst hn; subst hz; subst ha; subst hr
  refine q_inv hg hc hi hce ?_
  unfold pmCall
  simp only [hce]
  unfold qCk at hb
  rw [hb]
  refine hg _ _ hce _ _ _ _ _ _ (fun res L2 X1 Y1 h9 => ?_) h
  obtain ⟨e, h9⟩ := h9
  refine ⟨e, ?_⟩
  rcases h9 with ⟨x, e1, h9⟩ | h9
  · exact Or.inl ⟨x, e1, k x X1 Y1 h9⟩
  · exact Or.inr h9
theorem q_call2 (hg : Gmono g) (n : Nat) (as : List Value) (z2 : Nat × Nat) {C : Int64 → HX → HY → Prop} (hc : cdAt g.1 pc = some (i, len, tg, kc)) (hi : isInv i = true) (hce : g.2.2.1 pc = some (T, na, 2, cs, none, rc)) (hb : qCk g (T, na, 2, cs, none, rc) lv st L z = true) (hn : pc + len = n) (ha : (st.take na).reverse = as) (hr : st.drop na = r) (hz : (z.1 + cs.1, z.2 + cs.2) = z2)
    (h : T as L X Y (cK2 L Q C)) (k : ∀ x X1 Y1, C x X1 Y1 → WPx g Q n lv (.long x :: r) L X1 Y1 z2) : WPx g Q pc lv st L X Y z := by
  subst hn; subst hz; subst ha; subst hr
  refine q_inv hg hc hi hce ?_
  unfold pmCall
  simp only [hce]
  unfold qCk at hb
  rw [hb]
  refine hg _ _ hce _ _ _ _ _ _ (fun res L2 X1 Y1 h9 => ?_) h
  obtain ⟨e, h9⟩ := h9
  refine ⟨e, ?_⟩
  rcases h9 with ⟨x, e1, h9⟩ | h9
  · exact Or.inl ⟨x, e1, k x X1 Y1 h9⟩
  · exact Or.inr h9
theorem q_callS0 (hg : Gmono g) (n : Nat) (as : List Value) (z2 : Nat × Nat) {C : HX → HY → Prop} (hc : cdAt g.1 pc = some (i, len, tg, kc)) (hi : isInv i = true) (hce : g.2.2.1 pc = some (T, na, 0, cs, some (L, sel, Lc, Lc2, L2), rc)) (hb : qCk g (T, na, 0, cs, some (L, sel, Lc, Lc2, L2), rc) lv st L z = true) (hn : pc + len = n) (ha : (st.take na).reverse.map (rnV sel) = as) (hr : st.drop na = r) (hz : (z.1 + cs.1, z.2 + cs.2) = z2)
    (h : T as Lc (sb sel X) (sb sel Y) (cS0 Lc2 L2 sel L.length X Y Q C)) (k : ∀ X1 Y1, C X1 Y1 → WPx g Q n lv r L2 X1 Y1 z2) : WPx g Q pc lv st L X Y z := by
  subst hn; subst hz; subst ha; subst hr
  refine q_inv hg hc hi hce ?_
  unfold pmCall
  simp only [hce]
  unfold qCk at hb
  rw [hb]
  refine ⟨rfl, hg _ _ hce _ _ _ _ _ _ (fun res L3 X1 Y1 h9 => ?_) h⟩
  obtain ⟨e, h9⟩ := h9
  refine ⟨e, ?_⟩
  rcases h9 with ⟨e1, h9⟩ | h9
  · exact Or.inl ⟨e1, k _ _ h9⟩
  · exact Or.inr h9
theorem q_callS1 (hg : Gmono g) (n : Nat) (as : List Value) (z2 : Nat × Nat) {C : Int32 → HX → HY → Prop} (hc : cdAt g.1 pc = some (i, len, tg, kc)) (hi : isInv i = true) (hce : g.2.2.1 pc = some (T, na, 1, cs, some (L, sel, Lc, Lc2, L2), rc)) (hb : qCk g (T, na, 1, cs, some (L, sel, Lc, Lc2, L2), rc) lv st L z = true) (hn : pc + len = n) (ha : (st.take na).reverse.map (rnV sel) = as) (hr : st.drop na = r) (hz : (z.1 + cs.1, z.2 + cs.2) = z2)
    (h : T as Lc (sb sel X) (sb sel Y) (cS1 Lc2 L2 sel L.length X Y Q C)) (k : ∀ x X1 Y1, C x X1 Y1 → WPx g Q n lv (.int x :: r) L2 X1 Y1 z2) : WPx g Q pc lv st L X Y z := by
  subst hn; subst hz; subst ha; subst hr
  refine q_inv hg hc hi hce ?_
  unfold pmCall
  simp only [hce]
  unfold qCk at hb
  rw [hb]
  refine ⟨rfl, hg _ _ hce _ _ _ _ _ _ (fun res L3 X1 Y1 h9 => ?_) h⟩
  obtain ⟨e, h9⟩ := h9
  refine ⟨e, ?_⟩
  rcases h9 with ⟨x, e1, h9⟩ | h9
  · exact Or.inl ⟨x, e1, k x _ _ h9⟩
  · exact Or.inr h9
theorem q_callS2 (hg : Gmono g) (n : Nat) (as : List Value) (z2 : Nat × Nat) {C : Int64 → HX → HY → Prop} (hc : cdAt g.1 pc = some (i, len, tg, kc)) (hi : isInv i = true) (hce : g.2.2.1 pc = some (T, na, 2, cs, some (L, sel, Lc, Lc2, L2), rc)) (hb : qCk g (T, na, 2, cs, some (L, sel, Lc, Lc2, L2), rc) lv st L z = true) (hn : pc + len = n) (ha : (st.take na).reverse.map (rnV sel) = as) (hr : st.drop na = r) (hz : (z.1 + cs.1, z.2 + cs.2) = z2)
    (h : T as Lc (sb sel X) (sb sel Y) (cS2 Lc2 L2 sel L.length X Y Q C)) (k : ∀ x X1 Y1, C x X1 Y1 → WPx g Q n lv (.long x :: r) L2 X1 Y1 z2) : WPx g Q pc lv st L X Y z := by
  subst hn; subst hz; subst ha; subst hr
  refine q_inv hg hc hi hce ?_
  unfold pmCall
  simp only [hce]
  unfold qCk at hb
  rw [hb]
  refine ⟨rfl, hg _ _ hce _ _ _ _ _ _ (fun res L3 X1 Y1 h9 => ?_) h⟩
  obtain ⟨e, h9⟩ := h9
  refine ⟨e, ?_⟩
  rcases h9 with ⟨x, e1, h9⟩ | h9
  · exact Or.inl ⟨x, e1, k x _ _ h9⟩
  · exact Or.inr h9
def qRt (g : Gm) (z : Nat × Nat) : Bool := Nat.ble z.1 (gMc g) && Nat.ble z.2 (gMs g)
theorem q_iret (hg : Gmono g) (hc : cdAt g.1 pc = some (.ireturn, len, tg, kc)) (hb : qRt g z = true) (hz : g.2.2.2.2.2.2.2.2 = false) (k : Q (.inl (some (.int x))) L X Y) : WPx g Q pc lv [.int x] L X Y z := by
  unfold qRt at hb
  exact WPx.step hg (by simp only [stepP, hc, hb, goB, hz]; exact k)
theorem q_zret (hg : Gmono g) (hc : cdAt g.1 pc = some (.ireturn, len, tg, kc)) (hb : qRt g z = true) (hz : g.2.2.2.2.2.2.2.2 = true) (h : x = 0 ∨ x = 1) (k : Q (.inl (some (.int x))) L X Y) : WPx g Q pc lv [.int x] L X Y z := by
  unfold qRt at hb
  exact WPx.step hg (by simp only [stepP, hc, hb, goB, hz]; exact ⟨h, k⟩)
theorem q_lret (hg : Gmono g) (hc : cdAt g.1 pc = some (.lreturn, len, tg, kc)) (hb : qRt g z = true) (k : Q (.inl (some (.long u))) L X Y) : WPx g Q pc lv [.long u] L X Y z := by
  unfold qRt at hb
  exact WPx.step hg (by simp only [stepP, hc, hb, goB]; exact k)
theorem q_vret (hg : Gmono g) (hc : cdAt g.1 pc = some (.return_, len, tg, kc)) (hb : qRt g z = true) (k : Q (.inl none) L X Y) : WPx g Q pc lv [] L X Y z := by
  unfold qRt at hb
  exact WPx.step hg (by simp only [stepP, hc, hb, goB]; exact k)
theorem q_stop (hg : Gmono g) (bs : List Bool) (lv2 : Lv) (hb : mskB bs lv = true) (h2 : msk bs lv = lv2) (k : WPx g Q pc lv2 st L X Y z) : WPx g Q pc lv st L X Y z := by
  subst h2
  exact WPx.weak hg (msk_le bs lv hb) k
theorem q_ent (nL : Nat) {as : List Value} {lv : Lv} (hb : Nat.ble (enL as).length nL = true) (he : enLv nL as = lv) (k : WPx g Q 0 lv [] L X Y (0, 0)) : pmT g nL as L X Y Q := by
  subst he
  unfold pmT
  rw [hb]
  exact k
end QQ
