/-! the class as a whole: what holds from call to call -/
abbrev Kt8 : Type := Option (St × Ls)
/-- what the IMAGE keeps -/
def K8 (X : HX) (Y : HY) (o : Kt8) : Prop := (o = none ∧ X 0 16 = nI 0) ∨ ∃ q : St × Ls, o = some q ∧ X 0 16 = nI 1 ∧ SI q.1 ∧ BV 17 X q.1 ∧ Y 17 2 = lN (fm q.1) ∧ LF 17 X q.2
def A8 (b : Bool) (X : HX) (Y : HY) (s : St) (t : Tp) (f : Int32) (l : Ls) (o : Kt8) : Prop := Qw CK8 S76 S77 X Y s ∧ TV8 X t ∧ X 0 17 = f ∧ LF 9 X l ∧ PV (sb S57 X) P0 ∧ (b = true → X 79 2 = nI 60) ∧ K8 X Y o
section A8
variable {X X' : HX} {Y Y' : HY} {s s' : St} {t t' : Tp} {f f' : Int32} {l l' : Ls} {o : Kt8} {b : Bool} {Q : Qt}
theorem K8.fr (h : K8 X Y o) (e0 : X' 0 16 = X 0 16) (e17 : ∀ c, 17 ≤ c → c ≤ 24 → X' c = X c) (ey : Y' 17 2 = Y 17 2) : K8 X' Y' o := by
  rcases h with ⟨h1, h2⟩ | ⟨q, h1, h2, h3, h4, h5, h6⟩
  · exact Or.inl ⟨h1, e0.trans h2⟩
  · exact Or.inr ⟨q, h1, e0.trans h2, h3, h4.of (fun c z1 z2 => e17 c z1 (by omega)), ey.trans h5, h6.of (fun i _ => by rw [e17 17 (by omega) (by omega)])⟩
theorem A8.kq (h : A8 b X Y s t f l o) (q : Qw CK8 S76 S77 X' Y' s') (e : ∀ c, c < nC8 b → (c < 9 ∨ (16 < c ∧ c < 25) ∨ 79 ≤ c) → X' c = X c) (ey : Y' 17 = Y 17) (e9 : ∀ i, i ∈ [10, 11, 12, 13, 14] → X' 9 i = X 9 i) (pv : PV (sb S57 X') P0) : A8 b X' Y' s' t f l o := by
  have n79 := nC8_79 b
  obtain ⟨h1, h2, h3, h4, h5, h6, h7⟩ := h
  refine ⟨q, h2.eq (by rw [e 1 (by omega) (by omega)]) (e 2 (by omega) (by omega)), by rw [e 0 (by omega) (by omega)]; exact h3, h4.of e9, pv, fun hb => ?_, h7.fr (by rw [e 0 (by omega) (by omega)]) (fun c z1 z2 => e c (by omega) (by omega)) (by rw [ey])⟩
  subst hb
  rw [e 79 (by decide) (by omega)]; exact h6 rfl
theorem A8.kp (h : A8 b X Y s t f l o) (e : Kp b X X' Y Y') (q : Qw CK8 S76 S77 X' Y' s') : A8 b X' Y' s' t f l o := by
  have n79 := nC8_79 b
  exact h.kq q (fun c hc hd => (e c hc (by omega)).1) (e 17 (by omega) (by omega)).2 (fun i _ => by rw [(e 9 (by omega) (by omega)).1]) (PV57 h.2.2.2.2.1 (e 61 (by omega) (by omega)).1)
theorem A8.kpr (h : A8 b X Y s t f l o) (e : KpR b X X' Y Y') (q : Qw CK8 S76 S77 X' Y' s') : A8 b X' Y' s' t f l o := by
  have n79 := nC8_79 b
  exact h.kq q (fun c hc hd => (e.1 c hc (by omega)).1) (e.1 17 (by omega) (by omega)).2 (fun i _ => by rw [(e.1 9 (by omega) (by omega)).1]) (e.2 h.2.2.2.2.1)
theorem O8_can (h : A8 b X Y s t f l o) (k : ∀ X' Y', A8 b X' Y' s t f l o → Q (aCan s) (LX8 b) X' Y') : tX8_can b [.ref 0] (LX8 b) X Y Q := X8_can_s h.1 (fun X' Y' e q => k X' Y' (h.kp e q))
theorem O8_moments (h : A8 b X Y s t f l o) (k : ∀ X' Y', A8 b X' Y' s t f l o → Q (aMoments s) (LX8 b) X' Y') : tX8_moments b [.ref 0] (LX8 b) X Y Q := X8_moments_s h.1 (fun X' Y' e q => k X' Y' (h.kp e q))
theorem O8_moment {p : Int32} (h : A8 b X Y s t f l o) (k : ∀ X' Y', A8 b X' Y' s t f l o → Q (aMoment s p) (LX8 b) X' Y') : tX8_moment b [.ref 0, .int p] (LX8 b) X Y Q := X8_moment_s h.1 (fun X' Y' e q => k X' Y' (h.kp e q))
theorem O8_lay {p : Int32} (h : A8 b X Y s t f l o) (k : ∀ X' Y', A8 b X' Y' s t f l o → Q (aLay s p) (LX8 b) X' Y') : tX8_lay b [.ref 0, .int p] (LX8 b) X Y Q := X8_lay_s h.1 (fun X' Y' e q => k X' Y' (h.kp e q))
theorem O8_stays {p q : Int32} (h : A8 b X Y s t f l o) (k : ∀ X' Y', A8 b X' Y' s t f l o → Q (aStays s p q) (LX8 b) X' Y') : tX8_stays b [.ref 0, .int p, .int q] (LX8 b) X Y Q := X8_stays_s h.1 (fun X' Y' e q => k X' Y' (h.kp e q))
theorem O8_count (h : A8 b X Y s t f l o) (k : ∀ X' Y', A8 b X' Y' s t f l o → Q (aCount s) (LX8 b) X' Y') : tX8_count b [.ref 0] (LX8 b) X Y Q := X8_count_s h.1 (fun X' Y' e q => k X' Y' (h.kp e q))
theorem O8_opens (h : A8 b X Y s t f l o) (k : ∀ X' Y', A8 b X' Y' s t f l o → Q (aOpens s) (LX8 b) X' Y') : tX8_opens b [.ref 0] (LX8 b) X Y Q := X8_opens_s h.1 (fun X' Y' e q => k X' Y' (h.kp e q))
theorem O8_pair {p q : Int32} (h : A8 b X Y s t f l o) (k : ∀ X' Y', A8 b X' Y' s t f l o → Q (aPair s p q) (LX8 b) X' Y') : tX8_pair b [.ref 0, .int p, .int q] (LX8 b) X Y Q := X8_pair_s h.1 (fun X' Y' e q => k X' Y' (h.kp e q))
theorem O8_knot (h : A8 b X Y s t f l o) (k : ∀ X' Y', A8 b X' Y' s t f l o → Q (aKnot s) (LX8 b) X' Y') : tX8_knot b [.ref 0] (LX8 b) X Y Q := X8_knot_s h.1 (fun X' Y' e q => k X' Y' (h.kp e q))
theorem O8_three {p : Int32} (h : A8 b X Y s t f l o) (k : ∀ X' Y', A8 b X' Y' s t f l o → Q (aThree s p) (LX8 b) X' Y') : tX8_three b [.ref 0, .int p] (LX8 b) X Y Q := X8_three_s h.1 (fun X' Y' e q => k X' Y' (h.kp e q))
theorem O8_room {p : Int32} (h : A8 b X Y s t f l o) (k : ∀ X' Y', A8 b X' Y' s t f l o → Q (aRoom s p) (LX8 b) X' Y') : tX8_room b [.ref 0, .int p] (LX8 b) X Y Q := X8_room_s h.1 (fun X' Y' e q => k X' Y' (h.kp e q))
theorem O8_rooms (h : A8 b X Y s t f l o) (k : ∀ X' Y', A8 b X' Y' s t f l o → Q (aRooms s) (LX8 b) X' Y') : tX8_rooms b [.ref 0] (LX8 b) X Y Q := X8_rooms_s h.1 (fun X' Y' e q => k X' Y' (h.kp e q))
theorem O8_ring (h : A8 b X Y s t f l o) (k : ∀ X' Y', A8 b X' Y' s t f l o → Q (aRing s) (LX8 b) X' Y') : tX8_ring b [.ref 0] (LX8 b) X Y Q := X8_ring_s h.1 (fun X' Y' e q => k X' Y' (h.kp e q))
theorem O8_small (h : A8 b X Y s t f l o) (k : ∀ X' Y', A8 b X' Y' s t f l o → Q (aSmall s) (LX8 b) X' Y') : tX8_small b [.ref 0] (LX8 b) X Y Q := X8_small_s h.1 (fun X' Y' e q => k X' Y' (h.kp e q))
theorem O8_claw {p : Int32} (h : A8 b X Y s t f l o) (k : ∀ X' Y', A8 b X' Y' s t f l o → Q (aClaw s p) (LX8 b) X' Y') : tX8_claw b [.ref 0, .int p] (LX8 b) X Y Q := X8_claw_s h.1 (fun X' Y' e q => k X' Y' (h.kp e q))
theorem O8_leave {p : Int32} (h : A8 b X Y s t f l o) (k : ∀ X' Y', A8 b X' Y' s t f l o → Q (aLeave s p) (LX8 b) X' Y') : tX8_leave b [.ref 0, .int p] (LX8 b) X Y Q := X8_leave_s h.1 (fun X' Y' e q => k X' Y' (h.kp e q))
theorem O8_lies {p : Int32} (h : A8 b X Y s t f l o) (k : ∀ X' Y', A8 b X' Y' s t f l o → Q (aLies s p) (LX8 b) X' Y') : tX8_lies b [.ref 0, .int p] (LX8 b) X Y Q := X8_lies_s h.1 (fun X' Y' e q => k X' Y' (h.kp e q))
theorem O8_choose {p : Int32} (h : A8 b X Y s t f l o) (k : ∀ X' Y', A8 b X' Y' s t f l o → Q (aChoose s p) (LX8 b) X' Y') : tX8_choose b [.ref 0, .int p] (LX8 b) X Y Q := X8_choose_s h.1 (fun X' Y' e q => k X' Y' (h.kp e q))
theorem O8_obey (h : A8 b X Y s t f l o) (k : ∀ X' Y', A8 b X' Y' s t f l o → Q (aObey s) (LX8 b) X' Y') : tX8_obey b [.ref 0] (LX8 b) X Y Q := X8_obey_s h.1 (fun X' Y' e q => k X' Y' (h.kp e q))
theorem O8_span {p q : Int32} (h : A8 b X Y s t f l o) (k : ∀ X' Y', A8 b X' Y' s t f l o → Q (aSpan s p q) (LX8 b) X' Y') : tX8_span b [.ref 0, .int p, .int q] (LX8 b) X Y Q := X8_span_s h.1 (fun X' Y' e q => k X' Y' (h.kp e q))
theorem O8_must {p q : Int32} (h : A8 b X Y s t f l o) (k : ∀ X' Y', A8 b X' Y' s t f l o → Q (aMust s p q) (LX8 b) X' Y') : tX8_must b [.ref 0, .int p, .int q] (LX8 b) X Y Q := X8_must_s h.1 (fun X' Y' e q => k X' Y' (h.kp e q))
theorem O8_between {p q w : Int32} (h : A8 b X Y s t f l o) (k : ∀ X' Y', A8 b X' Y' s t f l o → Q (aBetween s p q w) (LX8 b) X' Y') : tX8_between b [.ref 0, .int p, .int q, .int w] (LX8 b) X Y Q := X8_between_s h.1 (fun X' Y' e q => k X' Y' (h.kp e q))
theorem O8_quarrel {p : Int32} (h : A8 b X Y s t f l o) (k : ∀ X' Y', A8 b X' Y' s t f l o → Q (aQuarrel s p) (LX8 b) X' Y') : tX8_quarrel b [.ref 0, .int p] (LX8 b) X Y Q := X8_quarrel_s h.1 (fun X' Y' e q => k X' Y' (h.kp e q))
theorem O8_quarrels {p : Int32} (h : A8 b X Y s t f l o) (k : ∀ X' Y', A8 b X' Y' s t f l o → Q (aQuarrels s p) (LX8 b) X' Y') : tX8_quarrels b [.ref 0, .int p] (LX8 b) X Y Q := X8_quarrels_s h.1 (fun X' Y' e q => k X' Y' (h.kp e q))
theorem O8_about {p q : Int32} (h : A8 b X Y s t f l o) (k : ∀ X' Y', A8 b X' Y' s t f l o → Q (aAbout s p q) (LX8 b) X' Y') : tX8_about b [.ref 0, .int p, .int q] (LX8 b) X Y Q := X8_about_s h.1 (fun X' Y' e q => k X' Y' (h.kp e q))
theorem O8_judge {p : Int32} (h : A8 b X Y s t f l o) (k : ∀ X' Y', A8 b X' Y' s t f l o → Q (aJudge s p) (LX8 b) X' Y') : tX8_judge b [.ref 0, .int p] (LX8 b) X Y Q := X8_judge_s h.1 (fun X' Y' e q => k X' Y' (h.kp e q))
theorem O8_ask (h : A8 b X Y s t f l o) (k : ∀ X' Y', A8 b X' Y' s t f l o → Q (aAsk s) (LX8 b) X' Y') : tX8_ask b [.ref 0] (LX8 b) X Y Q := X8_ask_s h.1 h.2.2.2.2.1 (fun X' Y' e q => k X' Y' (h.kp e q))
theorem O8_round (h : A8 b X Y s t f l o) (k : ∀ X' Y', A8 b X' Y' s t f l o → Q (aRound s) (LX8 b) X' Y') : tX8_round b [.ref 0] (LX8 b) X Y Q := X8_round_s h.1 (fun X' Y' e q => k X' Y' (h.kpr e q))
theorem O8_twice {p : Int32} (h : A8 b X Y s t f l o) (k : ∀ X' Y', A8 b X' Y' s t f l o → Q (aTwice s p) (LX8 b) X' Y') : tX8_twice b [.ref 0, .int p] (LX8 b) X Y Q := X8_twice_s h.1 (fun X' Y' e q => k X' Y' (h.kp e q))
theorem O8_kind (h : A8 b X Y s t f l o) (k : ∀ X' Y', A8 b X' Y' s t f l o → Q (aKind s) (LX8 b) X' Y') : tX8_kind b [.ref 0] (LX8 b) X Y Q := X8_kind_s h.1 (fun X' Y' e q => k X' Y' (h.kpr e q))
theorem O8_node {p q : Int32} (h : A8 b X Y s t f l o) (k : ∀ X' Y', A8 b X' Y' s t f l o → Q (aNode s p q) (LX8 b) X' Y') : tX8_node b [.ref 0, .int p, .int q] (LX8 b) X Y Q := X8_node_s h.1 (fun X' Y' e q => k X' Y' (h.kp e q))
theorem O8_sum {p : Int32} (h : A8 b X Y s t f l o) (k : ∀ X' Y', A8 b X' Y' s t f l o → Q (aSum s p) (LX8 b) X' Y') : tX8_sum b [.ref 0, .int p] (LX8 b) X Y Q := X8_sum_a h.1 (fun X' Y' e q => k X' Y' (h.kp e q))
theorem O8_check {u : Nat} (h : A8 b X Y s t f l o) (k : ∀ X' Y', A8 b X' Y' s t f l o → Q (aCheck s u) (LX8 b) X' Y') : tX8_check b [.ref 0, .int (nI u)] (LX8 b) X Y Q := X8_check_s h.1 (fun X' Y' e q => k X' Y' (h.kp e q))
theorem O8_fault (h : A8 b X Y s t f l o) (k : Q (rI f) (LX8 b) X Y) : tX8_fault b [.ref 0] (LX8 b) X Y Q := X8_fault_s (by rw [h.2.2.1]; exact k)
theorem O8_listed {p : Int32} (h : A8 b X Y s t f l o) (k : Q (aListed l p) (LX8 b) X Y) : tX8_listed b [.ref 0, .int p] (LX8 b) X Y Q := X8_listed_s h.2.2.2.1 k
theorem A8.kt (h : A8 b X Y s t f l o) (e : KpT b X X' Y Y') (q : Qw CK8 S76 S77 X' Y' s) (ht : TV8 X' t') : A8 b X' Y' s t' f l o := by
  have n79 := nC8_79 b
  obtain ⟨h1, h2, h3, h4, h5, h6, h7⟩ := h
  have ex : ∀ c, c < nC8 b → c ≠ 1 → c ≠ 2 → X' c = X c := fun c hc z1 z2 => (e c hc).1 ⟨z1, z2⟩
  refine ⟨q, ht, by rw [ex 0 (by omega) (by omega) (by omega)]; exact h3, h4.of (fun i _ => by rw [ex 9 (by omega) (by omega) (by omega)]), PV57 h5 (ex 61 (by omega) (by omega) (by omega)), fun hb => ?_, h7.fr (by rw [ex 0 (by omega) (by omega) (by omega)]) (fun c z1 z2 => ex c (by omega) (by omega) (by omega)) (by rw [(e 17 (by omega)).2])⟩
  subst hb
  rw [ex 79 (by decide) (by omega) (by omega)]; exact h6 rfl
theorem O8_feed {p1 p2 p3 p4 p5 : Int32} (h : A8 b X Y s t f l o) (k : ∀ X' Y', A8 b X' Y' s (feT t p1 p2 p3 p4 p5) f l o → Q (aFeed t) (LX8 b) X' Y') : tX8_feed b [.ref 0, .int p1, .int p2, .int p3, .int p4, .int p5] (LX8 b) X Y Q := X8_feed_s h.1 h.2.1 (fun X' Y' e q ht => k X' Y' (h.kt e q ht))
theorem O8_end {p : Int32} (h : A8 b X Y s t f l o) (k : ∀ X' Y', A8 b X' Y' s (enT t p) f l o → Q (aEnd t p) (LX8 b) X' Y') : tX8_end b [.ref 0, .int p] (LX8 b) X Y Q := X8_end_s h.1 h.2.1 (fun X' Y' e q ht => k X' Y' (h.kt e q ht))
theorem O8_guest (h : A8 b X Y s t f l o) (k1 : sG s < 9 → ∀ X', A8 b X' Y (gsF s) t f l o → Q (rI (nI (sG s))) (LX8 b) X' Y) (k2 : ¬ sG s < 9 → Q (.inr XU) (LX8 b) X Y) : tX8_guest b [.ref 0] (LX8 b) X Y Q := by
  have n79 := nC8_79 b
  exact X8_guest_s h.1 (fun hg X' e e9 q => k1 hg X' (h.kq q (fun c hc hd => e c hc (by omega) (by omega)) rfl (fun i hi => e9 i (fun z => by subst z; simp at hi)) (PV57 h.2.2.2.2.1 (e 61 (by omega) (by omega) (by omega))))) k2
theorem O8_strike {p q : Int32} (hq : q = nI 0 ∨ q = nI 1) (h : A8 b X Y s t f l o) (k1 : ∀ k0 X' Y', p = nI k0 → k0 < sN s → A8 b X' Y' (stF s k0 (decide (q = nI 0))) t f l o → Q (aStrike s k0 (decide (q = nI 0))) (LX8 b) X' Y') (k2 : ¬ isM s p → Q (.inr XI) (LX8 b) X Y) : tX8_strike b [.ref 0, .int p, .int q] (LX8 b) X Y Q := by
  have n79 := nC8_79 b
  exact X8_strike_s hq h.1 (fun k0 X' Y' e hk kp qw => k1 k0 X' Y' e hk (h.kq qw (fun c hc hd => (kp.1 c hc (by omega)).1) (kp.1 17 (by omega) (by omega)).2 (fun i _ => by rw [kp.2]) (PV57 h.2.2.2.2.1 (kp.1 61 (by omega) (by omega)).1))) k2
theorem O8_stay {p q w : Int32} (h : A8 b X Y s t f l o) (k1 : ∀ g a u X', p = nI g → g < sG s → q = nI a → w = nI u → a ≤ u → u ≤ 99 → A8 b X' Y (ssF s g a u) t f l o → Q (.inl none) (LX8 b) X' Y) (k2 : isG s p → ¬ okS q w → Q (.inr XA) (LX8 b) X Y) (k3 : ¬ isG s p → Q (.inr XI) (LX8 b) X Y) : tX8_stay b [.ref 0, .int p, .int q, .int w] (LX8 b) X Y Q :=
  X8_stay_s h.1 CK8_ig S76_ig S77_ig (fun g a u X' e1 hg e2 e3 hau hu e qw => k1 g a u X' e1 hg e2 e3 hau hu (h.kq qw (fun c hc hd => e c (by omega) (by omega)) rfl (fun i _ => by rw [e 9 (by omega) (by omega)]) (PV57 h.2.2.2.2.1 (e 61 (by omega) (by omega))))) k2 k3
theorem A8.ky (h : A8 b X Y s t f l o) (e : KpY b X X' Y Y') (q : Qw CK8 S76 S77 X' Y' s') (e17 : X' 0 17 = f') (e1 : X' 1 1 = nI 0) : A8 b X' Y' s' (0, t.2) f' l o := by
  have n79 := nC8_79 b
  obtain ⟨h1, h2, h3, h4, h5, h6, h7⟩ := h
  obtain ⟨f1, f2, f3, f4, f5⟩ := e
  refine ⟨q, ⟨by show 0 ≤ 400; omega, e1, fun i hi => absurd hi (by show ¬ i < 0; omega)⟩, e17, h4.of (fun i hi => f3 i (fun z => by subst z; simp at hi)), PV57 h5 (f1 61 (by omega) (by omega)), fun hb => ?_, h7.fr (f2 16 (by omega)) (fun c z1 z2 => f1 c (by omega) (by omega)) (by rw [f4 17 (by omega) (by omega)])⟩
  subst hb
  rw [f1 79 (by decide) (by omega)]; exact h6 rfl
theorem O8_memory (h : A8 b X Y s t f l o) (kb : ∀ b' X' Y', b' ≤ t.1 → (∀ (α : Type) (bad : Nat → α) good, txK t (sG s) bad good = bad b') → A8 b X' Y' s (0, t.2) (nI b') l o → Q (.inr XA) (LX8 b) X' Y') (ku : ∀ n D X' Y', (∀ (α : Type) (bad : Nat → α) good, txK t (sG s) bad good = good n D) → ¬ sN s + n ≤ 40 → A8 b X' Y' s (0, t.2) (-1) l o → Q (.inr XU) (LX8 b) X' Y') (kk : ∀ n D X' Y', (∀ (α : Type) (bad : Nat → α) good, txK t (sG s) bad good = good n D) → sN s + n ≤ 40 → A8 b X' Y' (meF s n D) (0, t.2) (-1) l o → Q (rI (nI n)) (LX8 b) X' Y') : tX8_memory b [.ref 0] (LX8 b) X Y Q :=
  X8_memory_s h.1 h.2.1 (fun b' X' Y' hb hx e e17 e1 q => kb b' X' Y' hb hx (h.ky e q e17 e1)) (fun n D X' Y' hx hn e e17 e1 q => ku n D X' Y' hx hn (h.ky e q e17 e1)) (fun n D X' Y' hx hn _ e e17 e1 q => kk n D X' Y' hx hn (h.ky e q e17 e1))
theorem O8_image (h : A8 b X Y s t f l o) (k : ∀ X' Y', A8 b X' Y' s t f l (some (s, l)) → Q (.inl none) (LX8 b) X' Y') : tX8_image b [.ref 0] (LX8 b) X Y Q := by
  have n79 := nC8_79 b
  obtain ⟨h1, h2, h3, h4, h5, h6, h7⟩ := h
  refine X8_image_s h1 (fun X' Y' e e0 e16 bv yf el q => k X' Y' ⟨q, h2.eq (by rw [(e 1 (by omega) (by omega)).1 (by omega)]) ((e 2 (by omega) (by omega)).1 (by omega)), (e0 17 (by omega)).trans h3, h4.of (fun i _ => by rw [(e 9 (by omega) (by omega)).1 (by omega)]), PV57 h5 ((e 61 (by omega) (by omega)).1 (by omega)), fun hb => ?_, Or.inr ⟨(s, l), rfl, e16, h1.si, bv, yf, h4.of el⟩⟩)
  subst hb
  rw [(e 79 (by decide) (by omega)).1 (by omega)]; exact h6 rfl
theorem O8_back (h : A8 b X Y s t f l o) (k1 : ∀ q X' Y', o = some q → A8 b X' Y' q.1 t f q.2 o → Q (rI (nI 1)) (LX8 b) X' Y') (k0 : o = none → Q (rI (nI 0)) (LX8 b) X Y) : tX8_back b [.ref 0] (LX8 b) X Y Q := by
  have n79 := nC8_79 b
  obtain ⟨h1, h2, h3, h4, h5, h6, h7⟩ := h
  rcases h7 with ⟨e1, e2⟩ | ⟨q, e1, e2, e3, e4, e5, e6⟩
  · exact X8_back_s (s' := s) h1 (Or.inl e2) (fun z => absurd (e2.symm.trans z) (by decide)) (fun _ => k0 e1)
  · refine X8_back_s (s' := q.1) h1 (Or.inr ⟨e2, e3, e4, e5⟩) (fun _ X' Y' e qw el => k1 q X' Y' e1 ⟨qw, h2.eq (by rw [(e 1 (by omega) (by omega)).1]) (e 2 (by omega) (by omega)).1, by rw [(e 0 (by omega) (by omega)).1]; exact h3, e6.of el, PV57 h5 (e 61 (by omega) (by omega)).1, fun hb => ?_, Or.inr ⟨q, e1, by rw [(e 0 (by omega) (by omega)).1]; exact e2, e3, e4.of (fun c z1 z2 => (e c (by omega) (by omega)).1), by rw [(e 17 (by omega) (by omega)).2]; exact e5, e6.of (fun i _ => by rw [(e 17 (by omega) (by omega)).1])⟩⟩) (fun z => absurd (z.symm.trans e2) (by decide))
    subst hb
    rw [(e 79 (by decide) (by omega)).1]; exact h6 rfl
theorem A8.kl {b : Bool} (h : A8 b X Y s t f l o) (e : KpL X X' Y Y') (hl : LF 9 X' l') : A8 true X' Y' s (0, t.2) f l' o := by
  obtain ⟨h1, h2, h3, h4, h5, h6, h7⟩ := h
  have q := h1.list e
  obtain ⟨f1, f2, f3, f4, f5, f6⟩ := e
  exact ⟨q, ⟨by show 0 ≤ 400; omega, f6, fun i hi => absurd hi (by show ¬ i < 0; omega)⟩, by rw [f1 0 (by omega) (by omega) (by omega)]; exact h3, hl, PV57 h5 (f1 61 (by omega) (by omega) (by omega)), fun _ => f5, h7.fr (by rw [f1 0 (by omega) (by omega) (by omega)]) (fun c z1 z2 => f1 c (by omega) (by omega) (by omega)) (by rw [f4 17 (by omega)])⟩
theorem O8_listT {p : Int32} (h : A8 true X Y s t f l o) (k1 : okL t p → ∀ X' Y', A8 true X' Y' s (0, t.2) f (lsT2 t p) o → Q (rI (nI (lsPr (lsT2 t p)))) (LX8 true) X' Y') (k2 : ¬ okL t p → ∀ X' Y', A8 true X' Y' s (0, t.2) f l o → Q (.inr XA) (LX8 true) X' Y') : tX8_list_T [.ref 0, .int p] (LX8 true) X Y Q :=
  X8_listT_s h.2.1 (h.2.2.2.2.2.1 rfl) (fun ok X' Y' e hl => k1 ok X' Y' (h.kl e hl)) (fun no X' Y' e e9 => k2 no X' Y' (h.kl e (h.2.2.2.1.of (fun i _ => by rw [e9]))))
theorem O8_listF {p : Int32} (h : A8 false X Y s t f l o) (k1 : okL t p → ∀ X' Y', A8 true X' Y' s (0, t.2) f (lsT2 t p) o → Q (rI (nI (lsPr (lsT2 t p)))) (LX8 true) X' Y') (k2 : ¬ okL t p → ∀ X' Y', A8 true X' Y' s (0, t.2) f l o → Q (.inr XA) (LX8 true) X' Y') : tX8_list_F [.ref 0, .int p] (LX8 false) X Y Q :=
  X8_listF_s h.2.1 (fun ok X' Y' e hl => k1 ok X' Y' (h.kl e hl)) (fun no X' Y' e e9 => k2 no X' Y' (h.kl e (h.2.2.2.1.of (fun i _ => by rw [e9]))))
end A8
