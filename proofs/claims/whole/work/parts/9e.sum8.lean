/-! sum, by the class, but for the chart -/
section Sm8
variable {CK S1 S2 : HX → St → Prop} {X X' : HX} {Y Y' : HY} {s : St} {b : Bool} {Q : Qt}
noncomputable def suV (s : St) (w : Nat) : Nat := if w = 0 then sG s else if w = 1 then sN s else if w = 2 then nF s (sN s) else if w = 3 then (qrL s).length else if w = 4 then (kdL s 0).length else (kdL s 1).length
theorem X8_sum_s {q : Int32} (h : Qw CK S1 S2 X Y s) (k : ∀ w X' Y', w < 6 → q = nI w → Kp b X X' Y Y' → Qw CK S1 S2 X' Y' s → Q (rI (nI (suV s w))) (LX8 b) X' Y') (k6 : q = nI 6 → tX8_settleChart b [.ref 0] (LX8 b) X Y (cK0 (LX8 b) Q (fun X6 Y6 => Q (.inl (some (.int (X6 65 5)))) (LX8 b) X6 Y6))) (kn : (q.toInt < 0 ∨ 6 < q.toInt) → Q (rI (-1)) (LX8 b) X Y) : tX8_sum b [.ref 0, .int q] (LX8 b) X Y Q := by
  have f40 := fm_lt h.si
  apply tX8_sum_i
  by_cases hq : ¬ q < 0 ∧ ¬ nI 6 < q
  · obtain ⟨w, hw, rfl⟩ := w6_c hq
    have tq : (nI w).toInt = w := nI_toInt (by omega)
    rw [tq]
    obtain rfl | rfl | rfl | rfl | rfl | rfl | rfl : w = 0 ∨ w = 1 ∨ w = 2 ∨ w = 3 ∨ w = 4 ∨ w = 5 ∨ w = 6 := by omega
    · refine ⟨fun y => by omega, fun _ => ?_, fun y => by omega, fun y => by omega, fun y => by omega, fun y => by omega, fun y => by omega, fun y => by omega, trivial⟩
      rw [h.bv.1]; exact k 0 X Y (by omega) rfl Kp.rfl h
    · refine ⟨fun y => by omega, fun y => by omega, fun _ => ?_, fun y => by omega, fun y => by omega, fun y => by omega, fun y => by omega, fun y => by omega, trivial⟩
      rw [h.bv.2.1]; exact k 1 X Y (by omega) rfl Kp.rfl h
    · refine ⟨fun y => by omega, fun y => by omega, fun y => by omega, fun _ => ?_, fun y => by omega, fun y => by omega, fun y => by omega, fun y => by omega, trivial⟩
      rw [h.2.2.2.1]
      refine bc64 (by omega) (cK1_mk ?_)
      rw [cnt_fm h.si]; exact k 2 X Y (by omega) rfl Kp.rfl h
    · refine ⟨fun y => by omega, fun y => by omega, fun y => by omega, fun y => by omega, fun _ => ?_, fun y => by omega, fun y => by omega, fun y => by omega, trivial⟩
      have e := Eq8.mg (b := b) (X := X) (Y := Y) [9, 10, 11, 12, 13, 14, 15, 16]
      have q3 := h.2.2.2.1
      have hq3 : sb [9, 10, 11, 12, 13, 14, 15, 16] Y 0 2 = lN (fm s) := q3
      have hb : BV 0 (sb [9, 10, 11, 12, 13, 14, 15, 16] X) s := h.bv
      exact X0_allq_s (r := []) hq3 hb h.si (cS1_mk (k 3 _ _ (by omega) rfl e.kp (h.scr e.scr)))
    · refine ⟨fun y => by omega, fun y => by omega, fun y => by omega, fun y => by omega, fun y => by omega, fun _ => ?_, fun y => by omega, fun y => by omega, trivial⟩
      exact Q8_kinds (by omega) h (fun X' Y' kp hx => cK1_mk (k 4 X' Y' (by omega) rfl kp hx))
    · refine ⟨fun y => by omega, fun y => by omega, fun y => by omega, fun y => by omega, fun y => by omega, fun y => by omega, fun _ => ?_, fun y => by omega, trivial⟩
      exact Q8_kinds (by omega) h (fun X' Y' kp hx => cK1_mk (k 5 X' Y' (by omega) rfl kp hx))
    · exact ⟨fun y => by omega, fun y => by omega, fun y => by omega, fun y => by omega, fun y => by omega, fun y => by omega, fun y => by omega, fun _ => k6 rfl, trivial⟩
  · have hn := w6_n hq
    exact ⟨fun _ => kn hn, fun y => by omega, fun y => by omega, fun y => by omega, fun y => by omega, fun y => by omega, fun y => by omega, fun y => by omega, trivial⟩
end Sm8
