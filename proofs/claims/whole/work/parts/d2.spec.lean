/-! what each call that tells something answers, and what is told behind it -/
noncomputable def aGuest (s : St) : Rs := cif (sG s < 9) (rI (nI (sG s))) (.inr XU)
noncomputable def nGuest (s : St) : St := cif (sG s < 9) (gsF s) s
noncomputable def aStr (s : St) (p q : Int32) : Rs := cif (isM s p) (aStrike s p.toNatClampNeg (decide (q = nI 0))) (.inr XI)
noncomputable def nStr (s : St) (p q : Int32) : St := cif (isM s p) (stF s p.toNatClampNeg (decide (q = nI 0))) s
noncomputable def aSty (s : St) (p q u : Int32) : Rs := cif (isG s p) (cif (okS q u) (.inl none) (.inr XA)) (.inr XI)
noncomputable def nSty (s : St) (p q u : Int32) : St := cif (isG s p) (cif (okS q u) (ssF s p.toNatClampNeg q.toNatClampNeg u.toNatClampNeg) s) s
noncomputable def mMem (s : St) (t : Tp) : Rs × St × Int32 := txK t (sG s) (fun b' => (.inr XA, s, nI b')) (fun n D => cif (sN s + n ≤ 40) (rI (nI n), meF s n D, -1) (.inr XU, s, -1))
noncomputable def nLst (l : Ls) (t : Tp) (p : Int32) : Ls := cif (okL t p) (lsT2 t p) l
def cdA : String → Nat := fun E => if E = XA then 1 else 2
theorem cdA_ok : ∀ E, cdA E = 1 ∨ cdA E = 2 := fun E => by
  unfold cdA
  by_cases e : E = XA
  · rw [if_pos e]; exact Or.inl rfl
  · rw [if_neg e]; exact Or.inr rfl
theorem cdG_1 : cdG XI = 1 := if_pos rfl
theorem cdG_N : cdG XN = 2 := if_neg (by decide)
theorem cdG_A : cdG XA = 2 := if_neg (by decide)
theorem cdG_S : cdG XS = 2 := if_neg (by decide)
theorem cdS_1 : cdS XS = 1 := if_pos rfl
theorem cdS_2 : cdS XN = 2 := if_neg (by decide)
theorem cdA_1 : cdA XA = 1 := if_pos rfl
theorem cdA_2 : cdA XU = 2 := if_neg (by decide)
theorem is_aGuest {s : St} : isA (aGuest s) [XU] := isA_c isA_i (isA_e (by simp))
theorem is_aStr {s : St} {p q : Int32} : isA (aStr s p q) [XI] := isA_c isA_i (isA_e (by simp))
theorem is_aList {t : Tp} {p : Int32} : isA (aList t p) [XA] := isA_c isA_i (isA_e (by simp))
theorem mMem_b {s : St} {t : Tp} {b' : Nat} (hx : ∀ (α : Type) (bad : Nat → α) good, txK t (sG s) bad good = bad b') : mMem s t = (.inr XA, s, nI b') := hx _ _ _
theorem mMem_g {s : St} {t : Tp} {n : Nat} {D : Nat → Nat → Int32} (hx : ∀ (α : Type) (bad : Nat → α) good, txK t (sG s) bad good = good n D) : mMem s t = cif (sN s + n ≤ 40) (rI (nI n), meF s n D, -1) (.inr XU, s, -1) := hx _ _ _
section Spe
variable {X X' : HX} {Y Y' : HY} {s : St} {t : Tp} {f : Int32} {l : Ls} {o : Kt8} {b : Bool} {v w : Sv} {p q u : Int32} {k : Int32}
theorem V8_guest (h8 : J8 b X Y (s, t, f, l, o)) (h9 : J9 X Y w) : tL_guest b [.ref 0, .ref 79] (Lw b) (sb (selW b) X) (sb (selW b) Y) (QW b X Y (CW b (nGuest s, t, f, l, o) w (wA cd1 Int32.toInt64 (aGuest s)))) := by
  apply tL_guest_i
  refine O8_guest h8.wr (fun hg X' h' => ?_) (fun hg => ?_)
  · rw [show rI (nI (sG s)) = aGuest s from (cif_y hg).symm]
    rw [show gsF s = nGuest s from (cif_y hg).symm] at h'
    exact gw1 Int32.toInt64 cd1 h' h9 is_aGuest rfl (fun _ _ _ h => h)
  · rw [show (.inr XU : Rs) = aGuest s from (cif_n hg).symm]
    have h' := h8.wr
    rw [show s = nGuest s from (cif_n hg).symm] at h'
    exact gw1 Int32.toInt64 cd1 h' h9 is_aGuest rfl (fun _ _ _ h => h)
theorem V9_guest (h8 : J8 b X Y v) (h9 : J9 X Y (s, t, f, l, o)) (hw : wA cd1 Int32.toInt64 (aGuest s) k (Y 108 0)) : tX9_guest [.ref 0] (LX9 ++ []) (sb sel9 X) (sb sel9 Y) (cLi (LX9 ++ []) sel9 (LLw b).length X Y (C9w b v (nGuest s, t, f, l, o) Int32.toInt64 k)) := by
  refine O9_guest h9 (fun hg X' h' z => ?_) (fun hg X' x h' z => ?_)
  · rw [show gsF s = nGuest s from (cif_y hg).symm] at h'
    exact g9w cd1_ok h8 h' is_aGuest hw (show ansM cd1 (aGuest s) _ _ from by rw [aGuest, cif_y hg]; exact ⟨z, rfl⟩)
  · rw [show s = nGuest s from (cif_n hg).symm] at h'
    exact g9w cd1_ok h8 h' is_aGuest hw (show ansM cd1 (aGuest s) _ _ from by rw [aGuest, cif_n hg]; exact ⟨z, x, rfl⟩)
theorem V8_strike (hq : q = nI 0 ∨ q = nI 1) (h8 : J8 b X Y (s, t, f, l, o)) (h9 : J9 X Y w) : tL_strike b [.ref 0, .int p, .int q, .ref 79] (Lw b) (sb (selW b) X) (sb (selW b) Y) (QW b X Y (CW b (nStr s p q, t, f, l, o) w (wA cd1 gz (aStr s p q)))) := by
  apply tL_strike_i
  refine O8_strike hq h8.wr (fun k0 X' Y' e hk h' => ?_) (fun hm => ?_)
  · have n40 : sN s ≤ 40 := h8.1.si.2.1
    have hk : k0 < sN s := hk
    have hm : isM s p := by
      subst e
      exact ⟨nI_nn (by omega), by rw [m_clamp (by omega)]; exact hk⟩
    have e0 : k0 = p.toNatClampNeg := by rw [e, m_clamp (by omega)]
    subst e0
    rw [show aStrike s p.toNatClampNeg (decide (q = nI 0)) = aStr s p q from (cif_y hm).symm]
    rw [show stF s p.toNatClampNeg (decide (q = nI 0)) = nStr s p q from (cif_y hm).symm] at h'
    exact gw1 gz cd1 h' h9 is_aStr rfl (fun x X2 Y2 h => gw_z (P := fun y => QW b X Y _ (rI (nI 0)) (Lw b) X2 (up2 Y2 79 0 y)) h)
  · have h' := h8.wr
    rw [show s = nStr s p q from (cif_n hm).symm] at h'
    rw [show (.inr XI : Rs) = aStr s p q from (cif_n hm).symm]
    exact gw1 gz cd1 h' h9 is_aStr rfl (fun x X2 Y2 h => gw_z (P := fun y => QW b X Y _ (rI (nI 0)) (Lw b) X2 (up2 Y2 79 0 y)) h)
theorem V9_strike (hq : q = nI 0 ∨ q = nI 1) (h8 : J8 b X Y v) (h9 : J9 X Y (s, t, f, l, o)) (hw : wA cd1 gz (aStr s p q) k (Y 108 0)) : tX9_strike [.ref 0, .int p, .int q] (LX9 ++ []) (sb sel9 X) (sb sel9 Y) (cLi (LX9 ++ []) sel9 (LLw b).length X Y (C9w b v (nStr s p q, t, f, l, o) gz k)) := by
  refine O9_strike hq h9 (fun k0 X' Y' res e hk h' a => ?_) (fun hm X' x h' z => ?_)
  · have n40 : sN s ≤ 40 := h9.1.2.1.2.1
    have hk : k0 < sN s := hk
    have hm : isM s p := by
      subst e
      exact ⟨nI_nn (by omega), by rw [m_clamp (by omega)]; exact hk⟩
    have e0 : k0 = p.toNatClampNeg := by rw [e, m_clamp (by omega)]
    subst e0
    rw [show aStrike s p.toNatClampNeg (decide (q = nI 0)) = aStr s p q from (cif_y hm).symm] at a
    rw [show stF s p.toNatClampNeg (decide (q = nI 0)) = nStr s p q from (cif_y hm).symm] at h'
    exact g9w cd1_ok h8 h' is_aStr hw a
  · rw [show s = nStr s p q from (cif_n hm).symm] at h'
    exact g9w cd1_ok h8 h' is_aStr hw (show ansM cd1 (aStr s p q) _ _ from by rw [aStr, cif_n hm]; exact ⟨z, x, rfl⟩)
theorem V8_memory (h8 : J8 b X Y (s, t, f, l, o)) (h9 : J9 X Y w) : tL_memory b [.ref 0, .ref 79] (Lw b) (sb (selW b) X) (sb (selW b) Y) (QW b X Y (CW b ((mMem s t).2.1, (0, t.2), (mMem s t).2.2, l, o) w (wA cdA Int32.toInt64 (mMem s t).1))) := by
  apply tL_memory_i
  refine O8_memory h8.wr (fun b' X' Y' hb hx h' => ?_) (fun n D X' Y' hx hn h' => ?_) (fun n D X' Y' hx hn h' => ?_)
  · rw [mMem_b hx]
    exact gw2 Int32.toInt64 cdA h' h9 (isA_e (by simp)) ⟨cdA_1, cdA_2⟩ (fun _ _ _ h => h)
  · rw [mMem_g hx, cif_n hn]
    exact gw2 Int32.toInt64 cdA h' h9 (isA_e (by simp)) ⟨cdA_1, cdA_2⟩ (fun _ _ _ h => h)
  · rw [mMem_g hx, cif_y hn]
    exact gw2 Int32.toInt64 cdA h' h9 isA_i ⟨cdA_1, cdA_2⟩ (fun _ _ _ h => h)
theorem V9_memory (h8 : J8 b X Y v) (h9 : J9 X Y (s, t, f, l, o)) (hw : wA cdA Int32.toInt64 (mMem s t).1 k (Y 108 0)) : tX9_memory [.ref 0] (LX9 ++ []) (sb sel9 X) (sb sel9 Y) (cLi (LX9 ++ []) sel9 (LLw b).length X Y (C9w b v ((mMem s t).2.1, (0, t.2), (mMem s t).2.2, l, o) Int32.toInt64 k)) := by
  refine O9_memory h9 (fun b' X' hb hx h' z => ?_) (fun n D X' hx hn h' z => ?_) (fun n D X' hx hn h' z => ?_)
  · rw [mMem_b hx] at hw ⊢
    exact g9w (Es := [XA, XU]) cdA_ok h8 h' (isA_e (by simp)) hw ⟨z, _, rfl⟩
  · rw [mMem_g hx, cif_n hn] at hw ⊢
    exact g9w (Es := [XA, XU]) cdA_ok h8 h' (isA_e (by simp)) hw ⟨z, _, rfl⟩
  · rw [mMem_g hx, cif_y hn] at hw ⊢
    exact g9w (Es := [XA, XU]) cdA_ok h8 h' isA_i hw ⟨z, rfl⟩
/-- what a wrapper says that puts nothing out -/
def wV (cd : String → Nat) (a : Rs) (k : Int32) : Prop := match a with
  | .inl _ => k = nI 0
  | .inr E => k = nI (cd E)
theorem gv {E : String} {C : HX → HY → Prop} {CE : String → HX → HY → Prop} {R : Int32 → Int64 → Prop} (h : A8 b X' Y' s t f l o) (h9 : J9 X Y w) (hE : ∀ X2 Y2, QW b X Y (CW b (s, t, f, l, o) w R) (rI k) (Lw b) X2 Y2 → CE E X2 Y2) (hR : ∀ y, R k y) : cWv (LX8 b) (sel8 b) (Lw b).length (sb (selW b) X) (sb (selW b) Y) C CE (.inr E) (LX8 b) X' Y' := ⟨rfl, Or.inr ⟨E, rfl, hE _ _ ⟨rfl, _, rfl, J8_W h eY1, J9_W h9, hR _⟩⟩⟩
theorem gv0 {C : HX → HY → Prop} {CE : String → HX → HY → Prop} {R : Int32 → Int64 → Prop} (h : A8 b X' Y' s t f l o) (h9 : J9 X Y w) (hE : ∀ X2 Y2, QW b X Y (CW b (s, t, f, l, o) w R) (rI k) (Lw b) X2 Y2 → C X2 Y2) (hR : ∀ y, R k y) : cWv (LX8 b) (sel8 b) (Lw b).length (sb (selW b) X) (sb (selW b) Y) C CE (.inl none) (LX8 b) X' Y' := ⟨rfl, Or.inl ⟨rfl, hE _ _ ⟨rfl, _, rfl, J8_W h eY1, J9_W h9, hR _⟩⟩⟩
theorem V8_stay (h8 : J8 b X Y (s, t, f, l, o)) (h9 : J9 X Y w) : tL_stay b [.ref 0, .int p, .int q, .int u] (Lw b) (sb (selW b) X) (sb (selW b) Y) (QW b X Y (CW b (nSty s p q u, t, f, l, o) w (fun k _ => wV cdG (aSty s p q u) k))) := by
  apply tL_stay_i
  have n9 : sG s ≤ 9 := h8.1.si.1
  refine O8_stay h8.wr (fun g a i X' e1 hg e2 e3 hau hu h' => ?_) (fun hg no => ?_) (fun hg => ?_)
  · have hg : g < sG s := hg
    have hG : isG s p := by rw [e1]; exact (isG_n (by omega)).mpr hg
    have ok : okS q u := by
      subst e2; subst e3
      exact ⟨nI_nn (by omega), fun z => by rw [m_lt (by omega) (by omega)] at z; omega, (m_le (by omega) (by omega)).mpr hu⟩
    have e4 : nSty s p q u = ssF s g a i := by
      rw [nSty, cif_y hG, cif_y ok, e1, e2, e3, m_clamp (by omega), m_clamp (by omega), m_clamp (by omega)]
    rw [e4]
    exact gv0 h' h9 (fun _ _ z => z) (fun _ => by rw [aSty, cif_y hG, cif_y ok]; exact (rfl : nI 0 = nI 0))
  · have h' := h8.wr
    rw [show s = nSty s p q u from ((cif_y hg).trans (cif_n no)).symm] at h'
    exact gv h' h9 (fun _ _ z => Or.inr ⟨rfl, z⟩) (fun _ => by rw [aSty, cif_y hg, cif_n no]; exact (congrArg nI cdG_A).symm)
  · have h' := h8.wr
    rw [show s = nSty s p q u from (cif_n hg).symm] at h'
    exact gv h' h9 (fun _ _ z => Or.inl ⟨rfl, z⟩) (fun _ => by rw [aSty, cif_n hg]; exact (congrArg nI cdG_1).symm)
def C9v (b : Bool) (v w : Sv) (k : Int32) : HX → HY → Prop := fun X1 Y1 => J8 b X1 Y1 v ∧ J9 X1 Y1 w ∧ X1 79 0 = k
theorem V9_stay (h8 : J8 b X Y v) (h9 : J9 X Y (s, t, f, l, o)) (hw : wV cdG (aSty s p q u) k) : tX9_stay [.ref 0, .int p, .int q, .int u] (LX9 ++ []) (sb sel9 X) (sb sel9 Y) (cLv (LX9 ++ []) sel9 (LLw b).length X Y (C9v b v (nSty s p q u, t, f, l, o) k)) := by
  have n9 : sG s ≤ 9 := h9.1.2.1.1
  refine O9_stay h9 (fun g a i X' e1 hg e2 e3 hau hu h' z => ?_) (fun hg no X' h' z => ?_) (fun hg X' h' z => ?_)
  · have hg : g < sG s := hg
    have hG : isG s p := by rw [e1]; exact (isG_n (by omega)).mpr hg
    have ok : okS q u := by
      subst e2; subst e3
      exact ⟨nI_nn (by omega), fun z => by rw [m_lt (by omega) (by omega)] at z; omega, (m_le (by omega) (by omega)).mpr hu⟩
    have e4 : nSty s p q u = ssF s g a i := by
      rw [nSty, cif_y hG, cif_y ok, e1, e2, e3, m_clamp (by omega), m_clamp (by omega), m_clamp (by omega)]
    rw [e4]
    rw [aSty, cif_y hG, cif_y ok] at hw
    exact ⟨rfl, rfl, J8_9 h8, J9_9 h', by rw [mg9_m]; exact z.trans (show k = nI 0 from hw).symm⟩
  · rw [show s = nSty s p q u from ((cif_y hg).trans (cif_n no)).symm] at h'
    rw [aSty, cif_y hg, cif_n no] at hw
    exact ⟨rfl, rfl, J8_9 h8, J9_9 h', by rw [mg9_m]; exact z.trans ((show k = nI (cdG XA) from hw).trans (congrArg nI cdG_A)).symm⟩
  · rw [show s = nSty s p q u from (cif_n hg).symm] at h'
    rw [aSty, cif_n hg] at hw
    exact ⟨rfl, rfl, J8_9 h8, J9_9 h', by rw [mg9_m]; exact z.trans ((show k = nI (cdG XI) from hw).trans (congrArg nI cdG_1)).symm⟩
/-- image, back -/
def nBk (v : Sv) : Sv := match v.2.2.2.2 with
  | some q => (q.1, v.2.1, v.2.2.1, q.2, v.2.2.2.2)
  | none => v
def aBk (o : Kt8) : Int32 := match o with
  | some _ => nI 1
  | none => nI 0
theorem V8_image (h8 : J8 b X Y (s, t, f, l, o)) (h9 : J9 X Y w) : tX8_image b [.ref 0] (LX8 b) (sb (selC b) X) (sb (selC b) Y) (cLv (LX8 b) (selC b) (LLw b).length X Y (fun X1 Y1 => J8 b X1 Y1 (s, t, f, l, some (s, l)) ∧ J9 X1 Y1 w)) := O8_image h8 (fun X' Y' h' => ⟨rfl, rfl, J8_C h', J9_C h9⟩)
theorem V9_image (h8 : J8 b X Y v) (h9 : J9 X Y (s, t, f, l, o)) : tX9_image [.ref 0] (LX9 ++ []) (sb sel9 X) (sb sel9 Y) (cLv (LX9 ++ []) sel9 (LLw b).length X Y (fun X1 Y1 => J8 b X1 Y1 v ∧ J9 X1 Y1 (s, t, f, l, some (s, l)))) := O9_image h9 (fun X' Y' h' _ => ⟨rfl, rfl, J8_9 h8, J9_9 h'⟩)
theorem V8_back (h8 : J8 b X Y (s, t, f, l, o)) (h9 : J9 X Y w) : tX8_back b [.ref 0] (LX8 b) (sb (selC b) X) (sb (selC b) Y) (cLi (LX8 b) (selC b) (LLw b).length X Y (fun x X1 Y1 => J8 b X1 Y1 (nBk (s, t, f, l, o)) ∧ J9 X1 Y1 w ∧ rI (aBk o) = rI x)) := by
  refine O8_back h8 (fun q X' Y' e h' => ?_) (fun e => ?_)
  · subst e
    exact g8i h' h9 rfl
  · subst e
    exact g8i h8 h9 rfl
theorem V9_back {x : Int32} (h8 : J8 b X Y v) (h9 : J9 X Y (s, t, f, l, o)) (e : rI (aBk o) = rI x) : tX9_back [.ref 0] (LX9 ++ []) (sb sel9 X) (sb sel9 Y) (cLi (LX9 ++ []) sel9 (LLw b).length X Y (fun y X1 Y1 => J8 b X1 Y1 v ∧ J9 X1 Y1 (nBk (s, t, f, l, o)) ∧ y = x)) := by
  refine O9_back h9 (fun q X' Y' e1 h' z => ?_) (fun e1 X' h' z => ?_)
  · subst e1
    exact g9i (cd := cd1) h8 h' e ⟨z, rfl⟩
  · subst e1
    exact g9i (cd := cd1) h8 h' e ⟨z, rfl⟩
end Spe
/-! a long list: the class' crowd comes, or is there -/
theorem sG_a : ∀ c, c < nC8 true → (selC true).getD c 0 < (LLw false).length → (selW false).contains ((selC true).getD c 0) = true ∧ (selW false).idxOf ((selC true).getD c 0) = (sel8 true).getD c 0 := by decide +kernel
theorem sG_b : ∀ c, c < nC8 true → ¬ (selC true).getD c 0 < (LLw false).length → (selW false).length + ((selC true).getD c 0 - (LLw false).length) = (sel8 true).getD c 0 := by decide +kernel
theorem sH_a : ∀ c, c < nC8 true → (sel8 true).getD c 0 < (Lw false).length → (sel8 false).contains ((sel8 true).getD c 0) = true ∧ (sel8 false).idxOf ((sel8 true).getD c 0) = c := by decide +kernel
theorem sH_b : ∀ c, c < nC8 true → ¬ (sel8 true).getD c 0 < (Lw false).length → (sel8 false).length + ((sel8 true).getD c 0 - (Lw false).length) = c := by decide +kernel
theorem mg_new {α : Type} {sel : List Nat} {n a i : Nat} {X X2 : Nat → α} (h : ¬ a < n) (e : sel.length + (a - n) = i) : mg sel n X X2 a = X2 i := by
  subst e
  simp only [mg]
  rw [if_neg h]
theorem mgG_8 {α : Type} {X X3 : Nat → α} {c : Nat} (hc : c < nC8 true) : sb (selC true) (mg (selW false) (LLw false).length X X3) c = sb (sel8 true) X3 c := by
  by_cases q : (selC true).getD c 0 < (LLw false).length
  · exact mg_in _ q (sG_a c hc q).1 (sG_a c hc q).2
  · exact mg_new q (sG_b c hc q)
theorem mgH_8 {α : Type} {X X3 : Nat → α} {c : Nat} (hc : c < nC8 true) : sb (sel8 true) (mg (sel8 false) (Lw false).length X X3) c = X3 c := by
  by_cases q : (sel8 true).getD c 0 < (Lw false).length
  · exact mg_in _ q (sH_a c hc q).1 (sH_a c hc q).2
  · exact mg_new q (sH_b c hc q)
section Lst
variable {X X' : HX} {Y Y' : HY} {s : St} {t : Tp} {f : Int32} {l : Ls} {o : Kt8} {b : Bool} {v w : Sv} {p : Int32} {k : Int32}
theorem J8_G {YY : HY} (h : A8 true X' Y' s t f l o) (e : ∀ c, c < nC8 true → YY ((sel8 true).getD c 0) = Y' c) : J8 true (mg (selW false) (LLw false).length X (mg (sel8 false) (Lw false).length (sb (selW false) X) X')) (mg (selW false) (LLw false).length Y YY) (s, t, f, l, o) := h.eq (fun c hc => ⟨(mgG_8 hc).trans (mgH_8 hc), (mgG_8 hc).trans (e c hc)⟩)
theorem V8_listT (h8 : J8 true X Y (s, t, f, l, o)) (h9 : J9 X Y w) : tL_list true [.ref 0, .int p, .ref 79] (Lw true) (sb (selW true) X) (sb (selW true) Y) (QW true X Y (CW true (s, (0, t.2), f, nLst l t p, o) w (wA cd1 Int32.toInt64 (aList t p)))) := by
  show tL_list_T _ _ _ _ _
  apply tL_list_T_i
  refine O8_listT h8.wr (fun ok X' Y' h' => ?_) (fun no X' Y' h' => ?_)
  · rw [show rI (nI (lsPr (lsT2 t p))) = aList t p from (cif_y ok).symm]
    rw [show lsT2 t p = nLst l t p from (cif_y ok).symm] at h'
    exact gw1 Int32.toInt64 cd1 h' h9 is_aList rfl (fun _ _ _ h => h)
  · rw [show l = nLst l t p from (cif_n no).symm] at h'
    rw [show (.inr XA : Rs) = aList t p from (cif_n no).symm]
    exact gw1 Int32.toInt64 cd1 h' h9 is_aList rfl (fun _ _ _ h => h)
theorem V8_listF (h8 : J8 false X Y (s, t, f, l, o)) (h9 : J9 X Y w) : tL_list false [.ref 0, .int p, .ref 79] (Lw false) (sb (selW false) X) (sb (selW false) Y) (cLi (Lw true) (selW false) (LLw false).length X Y (CW true (s, (0, t.2), f, nLst l t p, o) w (wA cd1 Int32.toInt64 (aList t p)))) := by
  show tL_list_F _ _ _ _ _
  apply tL_list_F_i
  have e1 : ∀ Y' : HY, ∀ c, c < nC8 true → mg (sel8 false) (Lw false).length (sb (selW false) Y) Y' ((sel8 true).getD c 0) = Y' c := fun Y' c hc => mgH_8 hc
  have e2 : ∀ (Y' : HY) (q : Int64), ∀ c, c < nC8 true → up2 (mg (sel8 false) (Lw false).length (sb (selW false) Y) Y') 79 0 q ((sel8 true).getD c 0) = Y' c := fun Y' q c hc => (up2_row (s8_in true c hc).2.2.2).trans (e1 Y' c hc)
  refine O8_listF h8.wr (fun ok X' Y' h' => ?_) (fun no X' Y' h' => ?_)
  · rw [show lsT2 t p = nLst l t p from (cif_y ok).symm] at h'
    exact ⟨rfl, Or.inl ⟨_, rfl, rfl, _, rfl, J8_G h' (e2 Y' _), J9_W h9, by rw [mgW_o, up2_same, aList, cif_y ok]; exact ⟨rfl, rfl⟩⟩⟩
  · rw [show l = nLst l t p from (cif_n no).symm] at h'
    exact ⟨rfl, Or.inr ⟨_, rfl, rfl, rfl, _, rfl, J8_G h' (e1 Y'), J9_W h9, by rw [aList, cif_n no]; exact rfl⟩⟩
theorem V9_list (h8 : J8 b X Y v) (h9 : J9 X Y (s, t, f, l, o)) (hw : wA cd1 Int32.toInt64 (aList t p) k (Y 108 0)) : tX9_list [.ref 0, .int p] (LX9 ++ []) (sb sel9 X) (sb sel9 Y) (cLi (LX9 ++ []) sel9 (LLw b).length X Y (C9w b v (s, (0, t.2), f, nLst l t p, o) Int32.toInt64 k)) := by
  refine O9_list h9 (fun ok X' Y' h' z => ?_) (fun no X' x h' z => ?_)
  · rw [show lsT2 t p = nLst l t p from (cif_y ok).symm] at h'
    exact g9w cd1_ok h8 h' is_aList hw (by rw [aList, cif_y ok]; exact ⟨z, rfl⟩)
  · rw [show l = nLst l t p from (cif_n no).symm] at h'
    exact g9w cd1_ok h8 h' is_aList hw (by rw [aList, cif_n no]; exact ⟨z, x, rfl⟩)
end Lst
