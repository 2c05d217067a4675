/-! NODES, one after another -/
noncomputable def srtE (m : Nat) (C : Nat → Nat → Prop) (o : Nat → Nat) (a b : Nat) : Nat × (Nat → Nat) × (Nat → Nat) := Classical.epsilon (fun z : Nat × (Nat → Nat) × (Nat → Nat) => SPp m C o a b z.1 z.2.1 z.2.2)
noncomputable def pN (m : Nat) (C : Nat → Nat → Prop) (o : Nat → Nat) (a b : Nat) : Nat := (srtE m C o a b).1
noncomputable def pB (m : Nat) (C : Nat → Nat → Prop) (o : Nat → Nat) (a b i : Nat) : Nat := (srtE m C o a b).2.1 i
noncomputable def pE (m : Nat) (C : Nat → Nat → Prop) (o : Nat → Nat) (a b i : Nat) : Nat := (srtE m C o a b).2.2 i
abbrev Nde : Type := Nat × Nat × Int
noncomputable def kids (m : Nat) (C : Nat → Nat → Prop) (o : Nat → Nat) (e : Nde) (k : Nat) : List Nde := (List.range (pN m C o e.1 e.2.1)).map (fun i => (pB m C o e.1 e.2.1 i, pE m C o e.1 e.2.1 i, (k : Int)))
/-- those that wait, ahead of step k -/
noncomputable def pdL (m : Nat) (C : Nat → Nat → Prop) (o : Nat → Nat) : Nat → List Nde
  | 0 => [(0, m - 1, -1)]
  | k + 1 => match pdL m C o k with
    | [] => []
    | e :: r => kids m C o e k ++ r
noncomputable def ndE (m : Nat) (C : Nat → Nat → Prop) (o : Nat → Nat) (k : Nat) : Nde := (pdL m C o k).headD (0, 0, 0)
/-- how many NODES there are -/
def chE (m : Nat) (C : Nat → Nat → Prop) (o : Nat → Nat) (T : Nat) : Prop := pdL m C o T = [] ∧ ∀ k, k < T → pdL m C o k ≠ []
def wtL : List Nde → Nat
  | [] => 0
  | e :: l => 2 * (e.2.1 - e.1) + 1 + wtL l
theorem wtL_app : ∀ l l' : List Nde, wtL (l ++ l') = wtL l + wtL l'
  | [], l' => by show wtL l' = 0 + wtL l'; omega
  | e :: l, l' => by
    show 2 * (e.2.1 - e.1) + 1 + wtL (l ++ l') = 2 * (e.2.1 - e.1) + 1 + wtL l + wtL l'
    rw [wtL_app l l']; omega
theorem wtL_len : ∀ l : List Nde, l.length ≤ wtL l
  | [] => Nat.le_refl _
  | e :: l => by
    have := wtL_len l
    show l.length + 1 ≤ 2 * (e.2.1 - e.1) + 1 + wtL l
    omega
theorem gSz_two {P P' : Nat → Prop} (h : ∀ x, P x → ¬ P' x) : ∀ n, gSz (fun x => P x ∨ P' x) n = gSz P n + gSz P' n
  | 0 => rfl
  | n + 1 => by
    have ih := gSz_two h n
    simp only [gSz]
    rw [ih]
    by_cases q : P n
    · rw [if_pos q, if_pos (Or.inl q), if_neg (h n q)]; omega
    · by_cases q' : P' n
      · rw [if_neg q, if_pos q', if_pos (Or.inr q')]; omega
      · rw [if_neg q, if_neg q', if_neg (fun z => z.elim q q')]; omega
theorem gSz_iv {p e : Nat} (h : p ≤ e) : ∀ n, gSz (fun x => p ≤ x ∧ x ≤ e) n = min n (e + 1) - min n p
  | 0 => by simp [gSz]
  | n + 1 => by
    have ih := gSz_iv h n
    simp only [gSz]
    rw [ih]
    by_cases q : p ≤ n ∧ n ≤ e
    · rw [if_pos q]; omega
    · rw [if_neg q]; omega
section Nds
variable {m : Nat} {C : Nat → Nat → Prop} {a b c : Nat} {pb pe o : Nat → Nat} {may : Nat → Nat → Prop}
theorem srt_eq (hO : LyN m may m o) (hC : ∀ a b, C a b → a ≤ b ∧ b < m) (h : SPp m C o a b c pb pe) : c = pN m C o a b ∧ ∀ i, i < c → pb i = pB m C o a b i ∧ pe i = pE m C o a b i :=
  SPp_uq hO hC h (Classical.epsilon_spec (p := fun z : Nat × (Nat → Nat) × (Nat → Nat) => SPp m C o a b z.1 z.2.1 z.2.2) ⟨(c, pb, pe), h⟩)
theorem kids_eq (hO : LyN m may m o) (hC : ∀ a b, C a b → a ≤ b ∧ b < m) (h : SPp m C o a b c pb pe) (u : Int) (k : Nat) : kids m C o (a, b, u) k = (List.range c).map (fun i => (pb i, pe i, (k : Int))) := by
  obtain ⟨e1, e2⟩ := srt_eq hO hC h
  unfold kids
  rw [← e1]
  refine List.map_congr_left (fun i hi => ?_)
  have := e2 i (List.mem_range.mp hi)
  show (pB m C o a b i, pE m C o a b i, (k : Int)) = _
  rw [this.1, this.2]
theorem kids_at (hO : LyN m may m o) (hC : ∀ a b, C a b → a ≤ b ∧ b < m) (h : SPp m C o a b c pb pe) {u : Int} {k y : Nat} {r : List Nde} : (kids m C o (a, b, u) k ++ r)[y]? = if y < c then some (pb y, pe y, (k : Int)) else r[y - c]? := by
  rw [kids_eq hO hC h]
  by_cases q : y < c
  · rw [if_pos q, List.getElem?_append_left (by rw [List.length_map, List.length_range]; exact q), List.getElem?_map, List.getElem?_range q]
    rfl
  · rw [if_neg q, List.getElem?_append_right (by rw [List.length_map, List.length_range]; omega), List.length_map, List.length_range]
theorem kids_len (hO : LyN m may m o) (hC : ∀ a b, C a b → a ≤ b ∧ b < m) (h : SPp m C o a b c pb pe) (u : Int) (k : Nat) : (kids m C o (a, b, u) k).length = c := by
  rw [kids_eq hO hC h, List.length_map, List.length_range]
theorem SPp.at (h : SPp m C o a b c pb pe) {i : Nat} (hi : i < c) : Pq C a b (pb i) (pe i) := (h.1 _ _).mpr ⟨i, hi, rfl, rfl⟩
theorem kids_st (hO : LyN m may m o) (hC : ∀ a b, C a b → a ≤ b ∧ b < m) (h : SPp m C o a b c pb pe) {u : Int} {k : Nat} : ∀ e, e ∈ kids m C o (a, b, u) k → stI C e.1 e.2.1 := by
  intro e he
  rw [kids_eq hO hC h] at he
  obtain ⟨i, hi, rfl⟩ := List.mem_map.mp he
  exact (h.at (List.mem_range.mp hi)).1
theorem spp_dj (hC : ∀ a b, C a b → a ≤ b ∧ b < m) (h : SPp m C o a b c pb pe) {i j : Nat} (hij : i < j) (hj : j < c) : pe i < pb j ∨ pe j < pb i := by
  have := Pq_disj hC (h.at (i := i) (by omega)) (h.at hj)
  rcases this with q | q
  · have := h.2 i j hij hj
    rw [q.1, q.2] at this
    omega
  · exact q
/-- their lengths -/
def lnS (pb pe : Nat → Nat) : Nat → Nat
  | 0 => 0
  | n + 1 => lnS pb pe n + (pe n - pb n + 1)
theorem ln_sz (hC : ∀ a b, C a b → a ≤ b ∧ b < m) (h : SPp m C o a b c pb pe) : ∀ n, n ≤ c → gSz (fun x => ∃ i, i < n ∧ pb i ≤ x ∧ x ≤ pe i) m = lnS pb pe n := by
  intro n
  induction n with
  | zero =>
    intro _
    refine Nat.le_antisymm ?_ (Nat.zero_le _)
    have : gSz (fun x => ∃ i, i < 0 ∧ pb i ≤ x ∧ x ≤ pe i) m ≤ gSz (fun x => x < 0) m := gSz_le (fun x ⟨i, hi, _⟩ => by omega)
    have h2 := gSz_out (P := fun x => x < 0) (n := 0) (fun v hv => hv) m
    rw [Nat.zero_add] at h2
    have h3 : gSz (fun x => x < 0) 0 = 0 := rfl
    show _ ≤ 0
    omega
  | succ n ih =>
    intro hn
    have bn := hC _ _ (h.at (i := n) (by omega)).1.1
    have e : gSz (fun x => ∃ i, i < n + 1 ∧ pb i ≤ x ∧ x ≤ pe i) m = gSz (fun x => (∃ i, i < n ∧ pb i ≤ x ∧ x ≤ pe i) ∨ (pb n ≤ x ∧ x ≤ pe n)) m := gSz_eq (fun x => ⟨fun ⟨i, hi, q⟩ => by
        by_cases e : i = n
        · subst e; exact Or.inr q
        · exact Or.inl ⟨i, by omega, q⟩, fun q => q.elim (fun ⟨i, hi, q⟩ => ⟨i, by omega, q⟩) (fun q => ⟨n, by omega, q⟩)⟩)
    rw [e, gSz_two (fun x ⟨i, hi, q1, q2⟩ q3 => by have := spp_dj hC h hi (by omega); omega), ih (by omega), gSz_iv bn.1]
    show _ = lnS pb pe n + (pe n - pb n + 1)
    omega
theorem ln_le (hC : ∀ a b, C a b → a ≤ b ∧ b < m) (hab : a ≤ b) (hb : b < m) (h : SPp m C o a b c pb pe) : lnS pb pe c ≤ b - a + 1 := by
  rw [← ln_sz hC h c (Nat.le_refl _)]
  have h1 : gSz (fun x => ∃ i, i < c ∧ pb i ≤ x ∧ x ≤ pe i) m ≤ gSz (fun x => a ≤ x ∧ x ≤ b) m := gSz_le (fun x ⟨i, hi, q1, q2⟩ => by
    have := h.at hi
    have := this.2.1
    have := (h.at hi).2.2.1
    exact ⟨by omega, by omega⟩)
  rw [gSz_iv hab] at h1
  omega
theorem kids_wt (hO : LyN m may m o) (hC : ∀ a b, C a b → a ≤ b ∧ b < m) (hab : a ≤ b) (hb : b < m) (h : SPp m C o a b c pb pe) (u : Int) (k : Nat) : wtL (kids m C o (a, b, u) k) + 1 ≤ 2 * (b - a) + 1 := by
  rw [kids_eq hO hC h]
  have H : ∀ n, n ≤ c → wtL ((List.range n).map (fun i => (pb i, pe i, (k : Int)))) + n = 2 * lnS pb pe n := by
    intro n
    induction n with
    | zero => intro _; rfl
    | succ n ih =>
      intro hn
      rw [List.range_succ, List.map_append, wtL_app]
      have := ih (by omega)
      show _ + (2 * (pe n - pb n) + 1 + 0) + (n + 1) = 2 * (lnS pb pe n + (pe n - pb n + 1))
      omega
  have h1 := H c (Nat.le_refl _)
  have h2 := ln_le hC hab hb h
  by_cases c2 : 2 ≤ c
  · omega
  · by_cases c0 : c = 0
    · subst c0
      show 0 + 1 ≤ _
      omega
    · have c1 : c = 1 := by omega
      subst c1
      have p0 : Pq C a b (pb 0) (pe 0) := h.at (by omega)
      have b0 : pb 0 ≤ pe 0 ∧ pe 0 < m := hC _ _ p0.1.1
      have h3 : lnS pb pe 1 = pe 0 - pb 0 + 1 := Nat.zero_add _
      have q1 : a ≤ pb 0 := p0.2.1
      have q2 : pe 0 ≤ b := p0.2.2.1
      have q3 : ¬ (pb 0 = a ∧ pe 0 = b) := p0.2.2.2.1
      rw [h3] at h1
      omega
theorem spp_c (hC : ∀ a b, C a b → a ≤ b ∧ b < m) (hab : a ≤ b) (hb : b < m) (h : SPp m C o a b c pb pe) : c ≤ b - a + 1 := by
  have h2 := ln_le hC hab hb h
  have H : ∀ n, n ≤ lnS pb pe n := by
    intro n
    induction n with
    | zero => exact Nat.le_refl _
    | succ n ih => show n + 1 ≤ lnS pb pe n + (pe n - pb n + 1); omega
  have := H c
  omega
/-- what holds of those that wait -/
def pdO (m : Nat) (C : Nat → Nat → Prop) (o : Nat → Nat) (k : Nat) : Prop := (∀ e, e ∈ pdL m C o k → stI C e.1 e.2.1) ∧ (pdL m C o k ≠ [] → k + wtL (pdL m C o k) ≤ 2 * m - 1) ∧ k ≤ 2 * m - 1
theorem pdO_0 (h0 : 0 < m) (hs : stI C 0 (m - 1)) : pdO m C o 0 := by
  refine ⟨fun e he => ?_, fun _ => ?_, by omega⟩
  · have : e = (0, m - 1, -1) := List.mem_singleton.mp he
    subst this; exact hs
  · show 0 + (2 * (m - 1 - 0) + 1 + 0) ≤ 2 * m - 1
    omega
theorem pdO_s (hO : LyN m may m o) (hC : ∀ a b, C a b → a ≤ b ∧ b < m) {k : Nat} {u : Int} {r : List Nde} (hk : pdL m C o k = (a, b, u) :: r) (h : SPp m C o a b c pb pe) (hp : pdO m C o k) : pdL m C o (k + 1) = kids m C o (a, b, u) k ++ r ∧ pdO m C o (k + 1) := by
  have e : pdL m C o (k + 1) = kids m C o (a, b, u) k ++ r := by
    simp only [pdL]
    rw [hk]
  obtain ⟨h1, h2, h3⟩ := hp
  have hs := h1 (a, b, u) (by rw [hk]; exact List.mem_cons_self)
  have bs : a ≤ b ∧ b < m := hC _ _ hs.1
  have w1 := h2 (by rw [hk]; exact List.cons_ne_nil _ _)
  rw [hk] at w1
  have w1 : k + (2 * (b - a) + 1 + wtL r) ≤ 2 * m - 1 := w1
  have w2 := kids_wt hO hC bs.1 bs.2 h u k
  refine ⟨e, fun x hx => ?_, fun _ => ?_, by omega⟩
  · rw [e] at hx
    rcases List.mem_append.mp hx with q | q
    · exact kids_st hO hC h x q
    · exact h1 x (by rw [hk]; exact List.mem_cons_of_mem _ q)
  · rw [e, wtL_app]; omega
theorem pd_hd {k : Nat} {e : Nde} {r : List Nde} (hk : pdL m C o k = e :: r) : ndE m C o k = e := by unfold ndE; rw [hk]; rfl
end Nds
