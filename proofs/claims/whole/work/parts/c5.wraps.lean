/-! the wrappers (printed by wip/whole/gen30.py) -/
theorem v1_0 : vp_in (nI 0) 1 := (m_in (by omega)).mpr (by omega)
def caL_guest (b : Bool) : List (Nat × Ce) := [(3, tX8_guest b, 1, 1, (1, 6), some ((Lw b), (sel8 b), (LX8 b), (LX8 b), (Lw b)), some 8)]
def gL_guest (b : Bool) : Gm := (kL_guest, lk ([] : List (Nat × Nat × Nat)), lk (caL_guest b), noT, noN, noV, (1, 6, false))
theorem gmL_guest (b : Bool) : Gmono (gL_guest b) := gm_lk rfl (List.forall_mem_cons.mpr ⟨moX8_guest b, fun _ h => absurd h List.not_mem_nil⟩)
def hdL_guest : Hdl := fun pc E => if pc = 3 ∧ E = "java/lang/UnsupportedOperationException" then some (11, 1, 2) else none
theorem hsL_guest : hdSt RL cL_guest 3 [(0, 8, 11, 13)] [] hdL_guest := by
  intro pc E q hq
  unfold hdL_guest at hq
  split at hq
  · rename_i h
    obtain ⟨rfl, rfl⟩ := h
    cases hq
    exact ⟨[], ⟨0, 8, 11, 13⟩, [], "java/lang/UnsupportedOperationException", rfl, fun z hz => absurd hz List.not_mem_nil, by decide, by decide, by decide +kernel, by decide +kernel, rfl, by decide, Or.inr ⟨2, rfl, (cdOk_at kL_guest_ok (show cdAt kL_guest 11 = some _ from rfl)).1, rfl⟩⟩
  · cases hq
def tL_guest (b : Bool) : Tm := pmTw (gL_guest b) hdL_guest 3
theorem moL_guest (b : Bool) : Tmono (tL_guest b) := pmTw_mono (gmL_guest b) 3
abbrev rmL_guest : Room := ({ frames := 7, cells := 1, slots := 6, locals := 110 } : Room)
theorem csL_guest (l : Launch) (D : va_G) (hl : l.stackTraces = false) (b : Bool) {p : Program} {e : Env} {s : State} {m : MethodId} {args : Array Value} {below : List Frame} {meth : Method} {c : Code} (C : CallFix p m c cL_guest 3 s args TG RL) : CallSnd p l e rmL_guest s m args below meth c D 3 3 (tX8_guest b) 1 1 6 (some 8) :=
  cs_V (ci := 8) (n := 0) (idx := 7) C (meX8_guest l D hl b) (cdOk_at kL_guest_ok (show cdAt kL_guest 3 = some _ from rfl)).1 wX8_guest_c wL_m7 wX8_guest_i wX8_guest_s wX8_z (by decide +kernel) rfl ⟨Nat.le_of_ble_eq_true rfl, Nat.le_of_ble_eq_true rfl⟩
theorem gcL_guest (l : Launch) (D : va_G) (hl : l.stackTraces = false) (b : Bool) : gCalls l D RL cL_guest 3 rmL_guest (gL_guest b) := gc_lk rfl (List.forall_mem_cons.mpr ⟨⟨fun p e s m args below meth c C => csL_guest l D hl b C, ⟨sel8_ok b, sel8_bk b⟩⟩, fun _ h => absurd h List.not_mem_nil⟩)
theorem goL_guest (b : Bool) : gOk RL "guest" cL_guest (some .int) (gL_guest b) := gOk_of kL_guest_ok (fun _ _ _ h => by cases h) (by cases b <;> decide +kernel) (Or.inl (by cases b <;> decide +kernel)) (fun pc E h => by cases h) (fun _ _ _ h => by cases h) (Or.inl (by cases b <;> decide +kernel))
theorem meL_guest (l : Launch) (D : va_G) (hl : l.stackTraces = false) (b : Bool) : pmMetH l D yL_guest cL_guest 3 (some .int) [(0, 8, 11, 13)] rmL_guest [] (tL_guest b) := pm_soundH (by decide +kernel) (goL_guest b) (gcL_guest l D hl b) rfl rfl ⟨Nat.le_of_ble_eq_true rfl, Nat.le_of_ble_eq_true rfl⟩ hsL_guest (fun _ => rfl) (fun _ => rfl) (na_of (show kL_guest.all naB = true by decide +kernel))
theorem tL_guest_i {b : Bool} {Q : Qt} {X : HX} {Y : HY} (h : tX8_guest b [.ref 0] (LX8 b) (sb (sel8 b) X) (sb (sel8 b) Y) (cWi (LX8 b) (sel8 b) (Lw b).length X Y (fun x X2 Y2 => Q (.inl (some (.int (nI 0)))) (Lw b) X2 (up2 Y2 79 0 x.toInt64)) (fun E X2 Y2 => (E = "java/lang/UnsupportedOperationException" ∧ Q (.inl (some (.int (nI 1)))) (Lw b) X2 Y2)))) : tL_guest b [.ref 0, .ref 79] (Lw b) X Y Q :=
  w_ent 3 (lv := [some (.ref 0), some (.ref 79), none]) rfl rfl (w_load (gmL_guest b) 1 rfl rfl rfl rfl (w_pure (gmL_guest b) 2 _ rfl rfl rfl rfl (w_load (gmL_guest b) 3 rfl rfl rfl rfl (w_call1 (gmL_guest b) 6 _ _ rfl (by cases b <;> rfl) rfl rfl rfl rfl h (fun x X2 Y2 hx => w_pure (gmL_guest b) 7 _ rfl rfl rfl rfl (w_last (gmL_guest b) 8 rfl rfl (by cases b <;> rfl) rfl v1_0 (w_goto (gmL_guest b) 14 rfl rfl (w_pure (gmL_guest b) 15 _ rfl rfl rfl rfl (w_iret (gmL_guest b) rfl rfl rfl rfl hx))))) (fun E X2 Y2 hy => by obtain ⟨rfl, hz⟩ := hy; exact ⟨_, if_pos ⟨rfl, rfl⟩, w_pure (gmL_guest b) 13 _ rfl rfl rfl rfl (w_iret (gmL_guest b) rfl rfl rfl rfl hz)⟩)))))
def caL_memory (b : Bool) : List (Nat × Ce) := [(3, tX8_memory b, 1, 1, (1, 6), some ((Lw b), (sel8 b), (LX8 b), (LX8 b), (Lw b)), some 8)]
def gL_memory (b : Bool) : Gm := (kL_memory, lk ([] : List (Nat × Nat × Nat)), lk (caL_memory b), noT, noN, noV, (1, 6, false))
theorem gmL_memory (b : Bool) : Gmono (gL_memory b) := gm_lk rfl (List.forall_mem_cons.mpr ⟨moX8_memory b, fun _ h => absurd h List.not_mem_nil⟩)
def hdL_memory : Hdl := fun pc E => if pc = 3 ∧ E = "java/lang/IllegalArgumentException" then some (11, 1, 2) else if pc = 3 ∧ E = "java/lang/UnsupportedOperationException" then some (14, 1, 2) else none
theorem hsL_memory : hdSt RL cL_memory 3 [(0, 8, 11, 18), (0, 8, 14, 13)] [("java/lang/UnsupportedOperationException", "java/lang/IllegalArgumentException")] hdL_memory := by
  intro pc E q hq
  unfold hdL_memory at hq
  split at hq
  · rename_i h
    obtain ⟨rfl, rfl⟩ := h
    cases hq
    exact ⟨[], ⟨0, 8, 11, 18⟩, [⟨0, 8, 14, 13⟩], "java/lang/IllegalArgumentException", rfl, fun z hz => absurd hz List.not_mem_nil, by decide, by decide, by decide +kernel, by decide +kernel, rfl, by decide, Or.inr ⟨2, rfl, (cdOk_at kL_memory_ok (show cdAt kL_memory 11 = some _ from rfl)).1, rfl⟩⟩
  · skip
    split at hq
    · rename_i h
      obtain ⟨rfl, rfl⟩ := h
      cases hq
      exact ⟨[⟨0, 8, 11, 18⟩], ⟨0, 8, 14, 13⟩, [], "java/lang/UnsupportedOperationException", rfl, fun z hz => by rw [List.mem_singleton.mp hz]; exact Or.inr ⟨by decide, "java/lang/IllegalArgumentException", by decide +kernel, by simp⟩, by decide, by decide, by decide +kernel, by decide +kernel, rfl, by decide, Or.inr ⟨2, rfl, (cdOk_at kL_memory_ok (show cdAt kL_memory 14 = some _ from rfl)).1, rfl⟩⟩
    · cases hq
def tL_memory (b : Bool) : Tm := pmTw (gL_memory b) hdL_memory 3
theorem moL_memory (b : Bool) : Tmono (tL_memory b) := pmTw_mono (gmL_memory b) 3
abbrev rmL_memory : Room := ({ frames := 19, cells := 1, slots := 6, locals := 453 } : Room)
theorem csL_memory (l : Launch) (D : va_G) (hl : l.stackTraces = false) (b : Bool) {p : Program} {e : Env} {s : State} {m : MethodId} {args : Array Value} {below : List Frame} {meth : Method} {c : Code} (C : CallFix p m c cL_memory 3 s args TG RL) : CallSnd p l e rmL_memory s m args below meth c D 3 3 (tX8_memory b) 1 1 6 (some 8) :=
  cs_V (ci := 8) (n := 0) (idx := 15) C (meX8_memory l D hl b) (cdOk_at kL_memory_ok (show cdAt kL_memory 3 = some _ from rfl)).1 wX8_memory_c wL_m15 wX8_memory_i wX8_memory_s wX8_z (by decide +kernel) rfl ⟨Nat.le_of_ble_eq_true rfl, Nat.le_of_ble_eq_true rfl⟩
theorem gcL_memory (l : Launch) (D : va_G) (hl : l.stackTraces = false) (b : Bool) : gCalls l D RL cL_memory 3 rmL_memory (gL_memory b) := gc_lk rfl (List.forall_mem_cons.mpr ⟨⟨fun p e s m args below meth c C => csL_memory l D hl b C, ⟨sel8_ok b, sel8_bk b⟩⟩, fun _ h => absurd h List.not_mem_nil⟩)
theorem goL_memory (b : Bool) : gOk RL "memory" cL_memory (some .int) (gL_memory b) := gOk_of kL_memory_ok (fun _ _ _ h => by cases h) (by cases b <;> decide +kernel) (Or.inl (by cases b <;> decide +kernel)) (fun pc E h => by cases h) (fun _ _ _ h => by cases h) (Or.inl (by cases b <;> decide +kernel))
theorem meL_memory (l : Launch) (D : va_G) (hl : l.stackTraces = false) (b : Bool) : pmMetH l D yL_memory cL_memory 3 (some .int) [(0, 8, 11, 18), (0, 8, 14, 13)] rmL_memory [("java/lang/UnsupportedOperationException", "java/lang/IllegalArgumentException")] (tL_memory b) := pm_soundH (by decide +kernel) (goL_memory b) (gcL_memory l D hl b) rfl rfl ⟨Nat.le_of_ble_eq_true rfl, Nat.le_of_ble_eq_true rfl⟩ hsL_memory (fun _ => rfl) (fun _ => rfl) (na_of (show kL_memory.all naB = true by decide +kernel))
theorem tL_memory_i {b : Bool} {Q : Qt} {X : HX} {Y : HY} (h : tX8_memory b [.ref 0] (LX8 b) (sb (sel8 b) X) (sb (sel8 b) Y) (cWi (LX8 b) (sel8 b) (Lw b).length X Y (fun x X2 Y2 => Q (.inl (some (.int (nI 0)))) (Lw b) X2 (up2 Y2 79 0 x.toInt64)) (fun E X2 Y2 => (E = "java/lang/IllegalArgumentException" ∧ Q (.inl (some (.int (nI 1)))) (Lw b) X2 Y2) ∨ (E = "java/lang/UnsupportedOperationException" ∧ Q (.inl (some (.int (nI 2)))) (Lw b) X2 Y2)))) : tL_memory b [.ref 0, .ref 79] (Lw b) X Y Q :=
  w_ent 3 (lv := [some (.ref 0), some (.ref 79), none]) rfl rfl (w_load (gmL_memory b) 1 rfl rfl rfl rfl (w_pure (gmL_memory b) 2 _ rfl rfl rfl rfl (w_load (gmL_memory b) 3 rfl rfl rfl rfl (w_call1 (gmL_memory b) 6 _ _ rfl (by cases b <;> rfl) rfl rfl rfl rfl h (fun x X2 Y2 hx => w_pure (gmL_memory b) 7 _ rfl rfl rfl rfl (w_last (gmL_memory b) 8 rfl rfl (by cases b <;> rfl) rfl v1_0 (w_goto (gmL_memory b) 17 rfl rfl (w_pure (gmL_memory b) 18 _ rfl rfl rfl rfl (w_iret (gmL_memory b) rfl rfl rfl rfl hx))))) (fun E X2 Y2 hx => hx.elim (fun hy => by obtain ⟨rfl, hz⟩ := hy; exact ⟨_, if_pos ⟨rfl, rfl⟩, w_pure (gmL_memory b) 13 _ rfl rfl rfl rfl (w_iret (gmL_memory b) rfl rfl rfl rfl hz)⟩) (fun hy => by obtain ⟨rfl, hz⟩ := hy; exact ⟨_, (if_neg (by decide)).trans (if_pos ⟨rfl, rfl⟩), w_pure (gmL_memory b) 16 _ rfl rfl rfl rfl (w_iret (gmL_memory b) rfl rfl rfl rfl hz)⟩))))))
def caL_about (b : Bool) : List (Nat × Ce) := [(5, tX8_about b, 3, 1, (2, 12), some ((Lw b), (sel8 b), (LX8 b), (LX8 b), (Lw b)), some 8)]
def gL_about (b : Bool) : Gm := (kL_about, lk ([] : List (Nat × Nat × Nat)), lk (caL_about b), noT, noN, noV, (2, 12, false))
theorem gmL_about (b : Bool) : Gmono (gL_about b) := gm_lk rfl (List.forall_mem_cons.mpr ⟨moX8_about b, fun _ h => absurd h List.not_mem_nil⟩)
def hdL_about : Hdl := fun pc E => if pc = 5 ∧ E = "java/lang/IndexOutOfBoundsException" then some (13, 2, 4) else if pc = 5 ∧ E = "java/util/NoSuchElementException" then some (17, 2, 4) else none
theorem hsL_about : hdSt RL cL_about 5 [(0, 10, 13, 24), (0, 10, 17, 26)] [("java/util/NoSuchElementException", "java/lang/IndexOutOfBoundsException")] hdL_about := by
  intro pc E q hq
  unfold hdL_about at hq
  split at hq
  · rename_i h
    obtain ⟨rfl, rfl⟩ := h
    cases hq
    exact ⟨[], ⟨0, 10, 13, 24⟩, [⟨0, 10, 17, 26⟩], "java/lang/IndexOutOfBoundsException", rfl, fun z hz => absurd hz List.not_mem_nil, by decide, by decide, by decide +kernel, by decide +kernel, rfl, by decide, Or.inl ⟨(cdOk_at kL_about_ok (show cdAt kL_about 13 = some _ from rfl)).1, rfl⟩⟩
  · skip
    split at hq
    · rename_i h
      obtain ⟨rfl, rfl⟩ := h
      cases hq
      exact ⟨[⟨0, 10, 13, 24⟩], ⟨0, 10, 17, 26⟩, [], "java/util/NoSuchElementException", rfl, fun z hz => by rw [List.mem_singleton.mp hz]; exact Or.inr ⟨by decide, "java/lang/IndexOutOfBoundsException", by decide +kernel, by simp⟩, by decide, by decide, by decide +kernel, by decide +kernel, rfl, by decide, Or.inl ⟨(cdOk_at kL_about_ok (show cdAt kL_about 17 = some _ from rfl)).1, rfl⟩⟩
    · cases hq
def tL_about (b : Bool) : Tm := pmTw (gL_about b) hdL_about 5
theorem moL_about (b : Bool) : Tmono (tL_about b) := pmTw_mono (gmL_about b) 5
abbrev rmL_about : Room := ({ frames := 8, cells := 2, slots := 12, locals := 132 } : Room)
theorem csL_about (l : Launch) (D : va_G) (hl : l.stackTraces = false) (b : Bool) {p : Program} {e : Env} {s : State} {m : MethodId} {args : Array Value} {below : List Frame} {meth : Method} {c : Code} (C : CallFix p m c cL_about 5 s args TG RL) : CallSnd p l e rmL_about s m args below meth c D 5 5 (tX8_about b) 3 2 12 (some 8) :=
  cs_V (ci := 8) (n := 2) (idx := 20) C (meX8_about l D hl b) (cdOk_at kL_about_ok (show cdAt kL_about 5 = some _ from rfl)).1 wX8_about_c wL_m20 wX8_about_i wX8_about_s wX8_z (by decide +kernel) rfl ⟨Nat.le_of_ble_eq_true rfl, Nat.le_of_ble_eq_true rfl⟩
theorem gcL_about (l : Launch) (D : va_G) (hl : l.stackTraces = false) (b : Bool) : gCalls l D RL cL_about 5 rmL_about (gL_about b) := gc_lk rfl (List.forall_mem_cons.mpr ⟨⟨fun p e s m args below meth c C => csL_about l D hl b C, ⟨sel8_ok b, sel8_bk b⟩⟩, fun _ h => absurd h List.not_mem_nil⟩)
theorem goL_about (b : Bool) : gOk RL "about" cL_about (some .int) (gL_about b) := gOk_of kL_about_ok (fun _ _ _ h => by cases h) (by cases b <;> decide +kernel) (Or.inl (by cases b <;> decide +kernel)) (fun pc E h => by cases h) (fun _ _ _ h => by cases h) (Or.inl (by cases b <;> decide +kernel))
theorem meL_about (l : Launch) (D : va_G) (hl : l.stackTraces = false) (b : Bool) : pmMetH l D yL_about cL_about 5 (some .int) [(0, 10, 13, 24), (0, 10, 17, 26)] rmL_about [("java/util/NoSuchElementException", "java/lang/IndexOutOfBoundsException")] (tL_about b) := pm_soundH (by decide +kernel) (goL_about b) (gcL_about l D hl b) rfl rfl ⟨Nat.le_of_ble_eq_true rfl, Nat.le_of_ble_eq_true rfl⟩ hsL_about (fun _ => rfl) (fun _ => rfl) (na_of (show kL_about.all naB = true by decide +kernel))
theorem tL_about_i {b : Bool} {Q : Qt} {X : HX} {Y : HY} {p1 p2 : Int32} (h : tX8_about b [.ref 0, .int p1, .int p2] (LX8 b) (sb (sel8 b) X) (sb (sel8 b) Y) (cWi (LX8 b) (sel8 b) (Lw b).length X Y (fun x X2 Y2 => Q (.inl (some (.int (nI 0)))) (Lw b) X2 (up2 Y2 79 0 x.toInt64)) (fun E X2 Y2 => (E = "java/lang/IndexOutOfBoundsException" ∧ Q (.inl (some (.int (nI 1)))) (Lw b) X2 Y2) ∨ (E = "java/util/NoSuchElementException" ∧ Q (.inl (some (.int (nI 2)))) (Lw b) X2 Y2)))) : tL_about b [.ref 0, .int p1, .int p2, .ref 79] (Lw b) X Y Q :=
  w_ent 5 (lv := [some (.ref 0), some (.int p1), some (.int p2), some (.ref 79), none]) rfl rfl (w_load (gmL_about b) 1 rfl rfl rfl rfl (w_pure (gmL_about b) 2 _ rfl rfl rfl rfl (w_load (gmL_about b) 3 rfl rfl rfl rfl (w_load (gmL_about b) 4 rfl rfl rfl rfl (w_load (gmL_about b) 5 rfl rfl rfl rfl (w_call1 (gmL_about b) 8 _ _ rfl (by cases b <;> rfl) rfl rfl rfl rfl h (fun x X2 Y2 hx => w_pure (gmL_about b) 9 _ rfl rfl rfl rfl (w_last (gmL_about b) 10 rfl rfl (by cases b <;> rfl) rfl v1_0 (w_goto (gmL_about b) 21 rfl rfl (w_pure (gmL_about b) 22 _ rfl rfl rfl rfl (w_iret (gmL_about b) rfl rfl rfl rfl hx))))) (fun E X2 Y2 hx => hx.elim (fun hy => by obtain ⟨rfl, hz⟩ := hy; exact ⟨_, if_pos ⟨rfl, rfl⟩, w_pure (gmL_about b) 16 _ rfl rfl rfl rfl (w_iret (gmL_about b) rfl rfl rfl rfl hz)⟩) (fun hy => by obtain ⟨rfl, hz⟩ := hy; exact ⟨_, (if_neg (by decide)).trans (if_pos ⟨rfl, rfl⟩), w_pure (gmL_about b) 20 _ rfl rfl rfl rfl (w_iret (gmL_about b) rfl rfl rfl rfl hz)⟩))))))))
def caL_strike (b : Bool) : List (Nat × Ce) := [(5, tX8_strike b, 3, 1, (1, 6), some ((Lw b), (sel8 b), (LX8 b), (LX8 b), (Lw b)), some 8)]
def gL_strike (b : Bool) : Gm := (kL_strike, lk ([] : List (Nat × Nat × Nat)), lk (caL_strike b), noT, noN, noV, (1, 6, false))
theorem gmL_strike (b : Bool) : Gmono (gL_strike b) := gm_lk rfl (List.forall_mem_cons.mpr ⟨moX8_strike b, fun _ h => absurd h List.not_mem_nil⟩)
def hdL_strike : Hdl := fun pc E => if pc = 5 ∧ E = "java/lang/IndexOutOfBoundsException" then some (20, 2, 4) else none
theorem hsL_strike : hdSt RL cL_strike 5 [(0, 17, 20, 24)] [] hdL_strike := by
  intro pc E q hq
  unfold hdL_strike at hq
  split at hq
  · rename_i h
    obtain ⟨rfl, rfl⟩ := h
    cases hq
    exact ⟨[], ⟨0, 17, 20, 24⟩, [], "java/lang/IndexOutOfBoundsException", rfl, fun z hz => absurd hz List.not_mem_nil, by decide, by decide, by decide +kernel, by decide +kernel, rfl, by decide, Or.inl ⟨(cdOk_at kL_strike_ok (show cdAt kL_strike 20 = some _ from rfl)).1, rfl⟩⟩
  · cases hq
def tL_strike (b : Bool) : Tm := pmTw (gL_strike b) hdL_strike 5
theorem moL_strike (b : Bool) : Tmono (tL_strike b) := pmTw_mono (gmL_strike b) 5
abbrev rmL_strike : Room := ({ frames := 8, cells := 1, slots := 6, locals := 132 } : Room)
theorem csL_strike (l : Launch) (D : va_G) (hl : l.stackTraces = false) (b : Bool) {p : Program} {e : Env} {s : State} {m : MethodId} {args : Array Value} {below : List Frame} {meth : Method} {c : Code} (C : CallFix p m c cL_strike 5 s args TG RL) : CallSnd p l e rmL_strike s m args below meth c D 5 5 (tX8_strike b) 3 1 6 (some 8) :=
  cs_V (ci := 8) (n := 2) (idx := 28) C (meX8_strike l D hl b) (cdOk_at kL_strike_ok (show cdAt kL_strike 5 = some _ from rfl)).1 wX8_strike_c wL_m28 wX8_strike_i wX8_strike_s wX8_z (by decide +kernel) rfl ⟨Nat.le_of_ble_eq_true rfl, Nat.le_of_ble_eq_true rfl⟩
theorem gcL_strike (l : Launch) (D : va_G) (hl : l.stackTraces = false) (b : Bool) : gCalls l D RL cL_strike 5 rmL_strike (gL_strike b) := gc_lk rfl (List.forall_mem_cons.mpr ⟨⟨fun p e s m args below meth c C => csL_strike l D hl b C, ⟨sel8_ok b, sel8_bk b⟩⟩, fun _ h => absurd h List.not_mem_nil⟩)
theorem goL_strike (b : Bool) : gOk RL "strike" cL_strike (some .int) (gL_strike b) := gOk_of kL_strike_ok (fun _ _ _ h => by cases h) (by cases b <;> decide +kernel) (Or.inl (by cases b <;> decide +kernel)) (fun pc E h => by cases h) (fun _ _ _ h => by cases h) (Or.inl (by cases b <;> decide +kernel))
theorem meL_strike (l : Launch) (D : va_G) (hl : l.stackTraces = false) (b : Bool) : pmMetH l D yL_strike cL_strike 5 (some .int) [(0, 17, 20, 24)] rmL_strike [] (tL_strike b) := pm_soundH (by decide +kernel) (goL_strike b) (gcL_strike l D hl b) rfl rfl ⟨Nat.le_of_ble_eq_true rfl, Nat.le_of_ble_eq_true rfl⟩ hsL_strike (fun _ => rfl) (fun _ => rfl) (na_of (show kL_strike.all naB = true by decide +kernel))
theorem tL_strike_i {b : Bool} {Q : Qt} {X : HX} {Y : HY} {p1 p2 : Int32} (h : tX8_strike b [.ref 0, .int p1, .int p2] (LX8 b) (sb (sel8 b) X) (sb (sel8 b) Y) (cWi (LX8 b) (sel8 b) (Lw b).length X Y (fun x X2 Y2 => (x = 0 → Q (.inl (some (.int (nI 0)))) (Lw b) X2 (up2 Y2 79 0 (lN 0))) ∧ (¬ x = 0 → Q (.inl (some (.int (nI 0)))) (Lw b) X2 (up2 Y2 79 0 (lN 1)))) (fun E X2 Y2 => (E = "java/lang/IndexOutOfBoundsException" ∧ Q (.inl (some (.int (nI 1)))) (Lw b) X2 Y2)))) : tL_strike b [.ref 0, .int p1, .int p2, .ref 79] (Lw b) X Y Q :=
  w_ent 5 (lv := [some (.ref 0), some (.int p1), some (.int p2), some (.ref 79), none]) rfl rfl (w_load (gmL_strike b) 1 rfl rfl rfl rfl (w_pure (gmL_strike b) 2 _ rfl rfl rfl rfl (w_load (gmL_strike b) 3 rfl rfl rfl rfl (w_load (gmL_strike b) 4 rfl rfl rfl rfl (w_load (gmL_strike b) 5 rfl rfl rfl rfl (w_call1 (gmL_strike b) 8 _ _ rfl (by cases b <;> rfl) rfl rfl rfl rfl h (fun x X2 Y2 hx => w_if (gmL_strike b) 15 11 rfl rfl rfl (fun e => w_pure (gmL_strike b) 16 _ rfl rfl rfl rfl (w_last (gmL_strike b) 17 rfl rfl (by cases b <;> rfl) rfl v1_0 (w_goto (gmL_strike b) 24 rfl rfl (w_pure (gmL_strike b) 25 _ rfl rfl rfl rfl (w_iret (gmL_strike b) rfl rfl rfl rfl (hx.1 e)))))) (fun e => w_pure (gmL_strike b) 12 _ rfl rfl rfl rfl (w_goto (gmL_strike b) 16 rfl rfl (w_last (gmL_strike b) 17 rfl rfl (by cases b <;> rfl) rfl v1_0 (w_goto (gmL_strike b) 24 rfl rfl (w_pure (gmL_strike b) 25 _ rfl rfl rfl rfl (w_iret (gmL_strike b) rfl rfl rfl rfl (hx.2 e)))))))) (fun E X2 Y2 hy => by obtain ⟨rfl, hz⟩ := hy; exact ⟨_, if_pos ⟨rfl, rfl⟩, w_pure (gmL_strike b) 23 _ rfl rfl rfl rfl (w_iret (gmL_strike b) rfl rfl rfl rfl hz)⟩)))))))
def caL_pair (b : Bool) : List (Nat × Ce) := [(5, tX8_pair b, 3, 1, (2, 12), some ((Lw b), (sel8 b), (LX8 b), (LX8 b), (Lw b)), some 8)]
def gL_pair (b : Bool) : Gm := (kL_pair, lk ([] : List (Nat × Nat × Nat)), lk (caL_pair b), noT, noN, noV, (2, 12, false))
theorem gmL_pair (b : Bool) : Gmono (gL_pair b) := gm_lk rfl (List.forall_mem_cons.mpr ⟨moX8_pair b, fun _ h => absurd h List.not_mem_nil⟩)
def hdL_pair : Hdl := fun pc E => if pc = 5 ∧ E = "java/lang/IndexOutOfBoundsException" then some (13, 2, 4) else none
theorem hsL_pair : hdSt RL cL_pair 5 [(0, 10, 13, 24)] [] hdL_pair := by
  intro pc E q hq
  unfold hdL_pair at hq
  split at hq
  · rename_i h
    obtain ⟨rfl, rfl⟩ := h
    cases hq
    exact ⟨[], ⟨0, 10, 13, 24⟩, [], "java/lang/IndexOutOfBoundsException", rfl, fun z hz => absurd hz List.not_mem_nil, by decide, by decide, by decide +kernel, by decide +kernel, rfl, by decide, Or.inl ⟨(cdOk_at kL_pair_ok (show cdAt kL_pair 13 = some _ from rfl)).1, rfl⟩⟩
  · cases hq
def tL_pair (b : Bool) : Tm := pmTw (gL_pair b) hdL_pair 5
theorem moL_pair (b : Bool) : Tmono (tL_pair b) := pmTw_mono (gmL_pair b) 5
abbrev rmL_pair : Room := ({ frames := 8, cells := 2, slots := 12, locals := 132 } : Room)
theorem csL_pair (l : Launch) (D : va_G) (hl : l.stackTraces = false) (b : Bool) {p : Program} {e : Env} {s : State} {m : MethodId} {args : Array Value} {below : List Frame} {meth : Method} {c : Code} (C : CallFix p m c cL_pair 5 s args TG RL) : CallSnd p l e rmL_pair s m args below meth c D 5 5 (tX8_pair b) 3 2 12 (some 8) :=
  cs_V (ci := 8) (n := 2) (idx := 32) C (meX8_pair l D hl b) (cdOk_at kL_pair_ok (show cdAt kL_pair 5 = some _ from rfl)).1 wX8_pair_c wL_m32 wX8_pair_i wX8_pair_s wX8_z (by decide +kernel) rfl ⟨Nat.le_of_ble_eq_true rfl, Nat.le_of_ble_eq_true rfl⟩
theorem gcL_pair (l : Launch) (D : va_G) (hl : l.stackTraces = false) (b : Bool) : gCalls l D RL cL_pair 5 rmL_pair (gL_pair b) := gc_lk rfl (List.forall_mem_cons.mpr ⟨⟨fun p e s m args below meth c C => csL_pair l D hl b C, ⟨sel8_ok b, sel8_bk b⟩⟩, fun _ h => absurd h List.not_mem_nil⟩)
theorem goL_pair (b : Bool) : gOk RL "pair" cL_pair (some .int) (gL_pair b) := gOk_of kL_pair_ok (fun _ _ _ h => by cases h) (by cases b <;> decide +kernel) (Or.inl (by cases b <;> decide +kernel)) (fun pc E h => by cases h) (fun _ _ _ h => by cases h) (Or.inl (by cases b <;> decide +kernel))
theorem meL_pair (l : Launch) (D : va_G) (hl : l.stackTraces = false) (b : Bool) : pmMetH l D yL_pair cL_pair 5 (some .int) [(0, 10, 13, 24)] rmL_pair [] (tL_pair b) := pm_soundH (by decide +kernel) (goL_pair b) (gcL_pair l D hl b) rfl rfl ⟨Nat.le_of_ble_eq_true rfl, Nat.le_of_ble_eq_true rfl⟩ hsL_pair (fun _ => rfl) (fun _ => rfl) (na_of (show kL_pair.all naB = true by decide +kernel))
theorem tL_pair_i {b : Bool} {Q : Qt} {X : HX} {Y : HY} {p1 p2 : Int32} (h : tX8_pair b [.ref 0, .int p1, .int p2] (LX8 b) (sb (sel8 b) X) (sb (sel8 b) Y) (cWi (LX8 b) (sel8 b) (Lw b).length X Y (fun x X2 Y2 => Q (.inl (some (.int (nI 0)))) (Lw b) X2 (up2 Y2 79 0 x.toInt64)) (fun E X2 Y2 => (E = "java/lang/IndexOutOfBoundsException" ∧ Q (.inl (some (.int (nI 1)))) (Lw b) X2 Y2)))) : tL_pair b [.ref 0, .int p1, .int p2, .ref 79] (Lw b) X Y Q :=
  w_ent 5 (lv := [some (.ref 0), some (.int p1), some (.int p2), some (.ref 79), none]) rfl rfl (w_load (gmL_pair b) 1 rfl rfl rfl rfl (w_pure (gmL_pair b) 2 _ rfl rfl rfl rfl (w_load (gmL_pair b) 3 rfl rfl rfl rfl (w_load (gmL_pair b) 4 rfl rfl rfl rfl (w_load (gmL_pair b) 5 rfl rfl rfl rfl (w_call1 (gmL_pair b) 8 _ _ rfl (by cases b <;> rfl) rfl rfl rfl rfl h (fun x X2 Y2 hx => w_pure (gmL_pair b) 9 _ rfl rfl rfl rfl (w_last (gmL_pair b) 10 rfl rfl (by cases b <;> rfl) rfl v1_0 (w_goto (gmL_pair b) 17 rfl rfl (w_pure (gmL_pair b) 18 _ rfl rfl rfl rfl (w_iret (gmL_pair b) rfl rfl rfl rfl hx))))) (fun E X2 Y2 hy => by obtain ⟨rfl, hz⟩ := hy; exact ⟨_, if_pos ⟨rfl, rfl⟩, w_pure (gmL_pair b) 16 _ rfl rfl rfl rfl (w_iret (gmL_pair b) rfl rfl rfl rfl hz)⟩)))))))
def caL_quarrels (b : Bool) : List (Nat × Ce) := [(4, tX8_quarrels b, 2, 1, (1, 6), some ((Lw b), (sel8 b), (LX8 b), (LX8 b), (Lw b)), some 8)]
def gL_quarrels (b : Bool) : Gm := (kL_quarrels, lk ([] : List (Nat × Nat × Nat)), lk (caL_quarrels b), noT, noN, noV, (1, 6, false))
theorem gmL_quarrels (b : Bool) : Gmono (gL_quarrels b) := gm_lk rfl (List.forall_mem_cons.mpr ⟨moX8_quarrels b, fun _ h => absurd h List.not_mem_nil⟩)
def hdL_quarrels : Hdl := fun pc E => if pc = 4 ∧ E = "java/lang/IndexOutOfBoundsException" then some (12, 1, 3) else none
theorem hsL_quarrels : hdSt RL cL_quarrels 4 [(0, 9, 12, 24)] [] hdL_quarrels := by
  intro pc E q hq
  unfold hdL_quarrels at hq
  split at hq
  · rename_i h
    obtain ⟨rfl, rfl⟩ := h
    cases hq
    exact ⟨[], ⟨0, 9, 12, 24⟩, [], "java/lang/IndexOutOfBoundsException", rfl, fun z hz => absurd hz List.not_mem_nil, by decide, by decide, by decide +kernel, by decide +kernel, rfl, by decide, Or.inr ⟨3, rfl, (cdOk_at kL_quarrels_ok (show cdAt kL_quarrels 12 = some _ from rfl)).1, rfl⟩⟩
  · cases hq
def tL_quarrels (b : Bool) : Tm := pmTw (gL_quarrels b) hdL_quarrels 4
theorem moL_quarrels (b : Bool) : Tmono (tL_quarrels b) := pmTw_mono (gmL_quarrels b) 4
abbrev rmL_quarrels : Room := ({ frames := 8, cells := 1, slots := 6, locals := 135 } : Room)
theorem csL_quarrels (l : Launch) (D : va_G) (hl : l.stackTraces = false) (b : Bool) {p : Program} {e : Env} {s : State} {m : MethodId} {args : Array Value} {below : List Frame} {meth : Method} {c : Code} (C : CallFix p m c cL_quarrels 4 s args TG RL) : CallSnd p l e rmL_quarrels s m args below meth c D 4 4 (tX8_quarrels b) 2 1 6 (some 8) :=
  cs_V (ci := 8) (n := 1) (idx := 35) C (meX8_quarrels l D hl b) (cdOk_at kL_quarrels_ok (show cdAt kL_quarrels 4 = some _ from rfl)).1 wX8_quarrels_c wL_m35 wX8_quarrels_i wX8_quarrels_s wX8_z (by decide +kernel) rfl ⟨Nat.le_of_ble_eq_true rfl, Nat.le_of_ble_eq_true rfl⟩
theorem gcL_quarrels (l : Launch) (D : va_G) (hl : l.stackTraces = false) (b : Bool) : gCalls l D RL cL_quarrels 4 rmL_quarrels (gL_quarrels b) := gc_lk rfl (List.forall_mem_cons.mpr ⟨⟨fun p e s m args below meth c C => csL_quarrels l D hl b C, ⟨sel8_ok b, sel8_bk b⟩⟩, fun _ h => absurd h List.not_mem_nil⟩)
theorem goL_quarrels (b : Bool) : gOk RL "quarrels" cL_quarrels (some .int) (gL_quarrels b) := gOk_of kL_quarrels_ok (fun _ _ _ h => by cases h) (by cases b <;> decide +kernel) (Or.inl (by cases b <;> decide +kernel)) (fun pc E h => by cases h) (fun _ _ _ h => by cases h) (Or.inl (by cases b <;> decide +kernel))
theorem meL_quarrels (l : Launch) (D : va_G) (hl : l.stackTraces = false) (b : Bool) : pmMetH l D yL_quarrels cL_quarrels 4 (some .int) [(0, 9, 12, 24)] rmL_quarrels [] (tL_quarrels b) := pm_soundH (by decide +kernel) (goL_quarrels b) (gcL_quarrels l D hl b) rfl rfl ⟨Nat.le_of_ble_eq_true rfl, Nat.le_of_ble_eq_true rfl⟩ hsL_quarrels (fun _ => rfl) (fun _ => rfl) (na_of (show kL_quarrels.all naB = true by decide +kernel))
theorem tL_quarrels_i {b : Bool} {Q : Qt} {X : HX} {Y : HY} {p1 : Int32} (h : tX8_quarrels b [.ref 0, .int p1] (LX8 b) (sb (sel8 b) X) (sb (sel8 b) Y) (cWi (LX8 b) (sel8 b) (Lw b).length X Y (fun x X2 Y2 => Q (.inl (some (.int (nI 0)))) (Lw b) X2 (up2 Y2 79 0 x.toInt64)) (fun E X2 Y2 => (E = "java/lang/IndexOutOfBoundsException" ∧ Q (.inl (some (.int (nI 1)))) (Lw b) X2 Y2)))) : tL_quarrels b [.ref 0, .int p1, .ref 79] (Lw b) X Y Q :=
  w_ent 4 (lv := [some (.ref 0), some (.int p1), some (.ref 79), none]) rfl rfl (w_load (gmL_quarrels b) 1 rfl rfl rfl rfl (w_pure (gmL_quarrels b) 2 _ rfl rfl rfl rfl (w_load (gmL_quarrels b) 3 rfl rfl rfl rfl (w_load (gmL_quarrels b) 4 rfl rfl rfl rfl (w_call1 (gmL_quarrels b) 7 _ _ rfl (by cases b <;> rfl) rfl rfl rfl rfl h (fun x X2 Y2 hx => w_pure (gmL_quarrels b) 8 _ rfl rfl rfl rfl (w_last (gmL_quarrels b) 9 rfl rfl (by cases b <;> rfl) rfl v1_0 (w_goto (gmL_quarrels b) 15 rfl rfl (w_pure (gmL_quarrels b) 16 _ rfl rfl rfl rfl (w_iret (gmL_quarrels b) rfl rfl rfl rfl hx))))) (fun E X2 Y2 hy => by obtain ⟨rfl, hz⟩ := hy; exact ⟨_, if_pos ⟨rfl, rfl⟩, w_pure (gmL_quarrels b) 14 _ rfl rfl rfl rfl (w_iret (gmL_quarrels b) rfl rfl rfl rfl hz)⟩))))))
def caL_moment (b : Bool) : List (Nat × Ce) := [(4, tX8_moment b, 2, 1, (1, 6), some ((Lw b), (sel8 b), (LX8 b), (LX8 b), (Lw b)), some 8)]
def gL_moment (b : Bool) : Gm := (kL_moment, lk ([] : List (Nat × Nat × Nat)), lk (caL_moment b), noT, noN, noV, (1, 6, false))
theorem gmL_moment (b : Bool) : Gmono (gL_moment b) := gm_lk rfl (List.forall_mem_cons.mpr ⟨moX8_moment b, fun _ h => absurd h List.not_mem_nil⟩)
def hdL_moment : Hdl := fun pc E => if pc = 4 ∧ E = "java/util/NoSuchElementException" then some (12, 1, 3) else none
theorem hsL_moment : hdSt RL cL_moment 4 [(0, 9, 12, 26)] [] hdL_moment := by
  intro pc E q hq
  unfold hdL_moment at hq
  split at hq
  · rename_i h
    obtain ⟨rfl, rfl⟩ := h
    cases hq
    exact ⟨[], ⟨0, 9, 12, 26⟩, [], "java/util/NoSuchElementException", rfl, fun z hz => absurd hz List.not_mem_nil, by decide, by decide, by decide +kernel, by decide +kernel, rfl, by decide, Or.inr ⟨3, rfl, (cdOk_at kL_moment_ok (show cdAt kL_moment 12 = some _ from rfl)).1, rfl⟩⟩
  · cases hq
def tL_moment (b : Bool) : Tm := pmTw (gL_moment b) hdL_moment 4
theorem moL_moment (b : Bool) : Tmono (tL_moment b) := pmTw_mono (gmL_moment b) 4
abbrev rmL_moment : Room := ({ frames := 7, cells := 1, slots := 6, locals := 148 } : Room)
theorem csL_moment (l : Launch) (D : va_G) (hl : l.stackTraces = false) (b : Bool) {p : Program} {e : Env} {s : State} {m : MethodId} {args : Array Value} {below : List Frame} {meth : Method} {c : Code} (C : CallFix p m c cL_moment 4 s args TG RL) : CallSnd p l e rmL_moment s m args below meth c D 4 4 (tX8_moment b) 2 1 6 (some 8) :=
  cs_V (ci := 8) (n := 1) (idx := 39) C (meX8_moment l D hl b) (cdOk_at kL_moment_ok (show cdAt kL_moment 4 = some _ from rfl)).1 wX8_moment_c wL_m39 wX8_moment_i wX8_moment_s wX8_z (by decide +kernel) rfl ⟨Nat.le_of_ble_eq_true rfl, Nat.le_of_ble_eq_true rfl⟩
theorem gcL_moment (l : Launch) (D : va_G) (hl : l.stackTraces = false) (b : Bool) : gCalls l D RL cL_moment 4 rmL_moment (gL_moment b) := gc_lk rfl (List.forall_mem_cons.mpr ⟨⟨fun p e s m args below meth c C => csL_moment l D hl b C, ⟨sel8_ok b, sel8_bk b⟩⟩, fun _ h => absurd h List.not_mem_nil⟩)
theorem goL_moment (b : Bool) : gOk RL "moment" cL_moment (some .int) (gL_moment b) := gOk_of kL_moment_ok (fun _ _ _ h => by cases h) (by cases b <;> decide +kernel) (Or.inl (by cases b <;> decide +kernel)) (fun pc E h => by cases h) (fun _ _ _ h => by cases h) (Or.inl (by cases b <;> decide +kernel))
theorem meL_moment (l : Launch) (D : va_G) (hl : l.stackTraces = false) (b : Bool) : pmMetH l D yL_moment cL_moment 4 (some .int) [(0, 9, 12, 26)] rmL_moment [] (tL_moment b) := pm_soundH (by decide +kernel) (goL_moment b) (gcL_moment l D hl b) rfl rfl ⟨Nat.le_of_ble_eq_true rfl, Nat.le_of_ble_eq_true rfl⟩ hsL_moment (fun _ => rfl) (fun _ => rfl) (na_of (show kL_moment.all naB = true by decide +kernel))
theorem tL_moment_i {b : Bool} {Q : Qt} {X : HX} {Y : HY} {p1 : Int32} (h : tX8_moment b [.ref 0, .int p1] (LX8 b) (sb (sel8 b) X) (sb (sel8 b) Y) (cWi (LX8 b) (sel8 b) (Lw b).length X Y (fun x X2 Y2 => Q (.inl (some (.int (nI 0)))) (Lw b) X2 (up2 Y2 79 0 x.toInt64)) (fun E X2 Y2 => (E = "java/util/NoSuchElementException" ∧ Q (.inl (some (.int (nI 1)))) (Lw b) X2 Y2)))) : tL_moment b [.ref 0, .int p1, .ref 79] (Lw b) X Y Q :=
  w_ent 4 (lv := [some (.ref 0), some (.int p1), some (.ref 79), none]) rfl rfl (w_load (gmL_moment b) 1 rfl rfl rfl rfl (w_pure (gmL_moment b) 2 _ rfl rfl rfl rfl (w_load (gmL_moment b) 3 rfl rfl rfl rfl (w_load (gmL_moment b) 4 rfl rfl rfl rfl (w_call1 (gmL_moment b) 7 _ _ rfl (by cases b <;> rfl) rfl rfl rfl rfl h (fun x X2 Y2 hx => w_pure (gmL_moment b) 8 _ rfl rfl rfl rfl (w_last (gmL_moment b) 9 rfl rfl (by cases b <;> rfl) rfl v1_0 (w_goto (gmL_moment b) 15 rfl rfl (w_pure (gmL_moment b) 16 _ rfl rfl rfl rfl (w_iret (gmL_moment b) rfl rfl rfl rfl hx))))) (fun E X2 Y2 hy => by obtain ⟨rfl, hz⟩ := hy; exact ⟨_, if_pos ⟨rfl, rfl⟩, w_pure (gmL_moment b) 14 _ rfl rfl rfl rfl (w_iret (gmL_moment b) rfl rfl rfl rfl hz)⟩))))))
def caL_lay (b : Bool) : List (Nat × Ce) := [(4, tX8_lay b, 2, 1, (1, 6), some ((Lw b), (sel8 b), (LX8 b), (LX8 b), (Lw b)), some 8)]
def gL_lay (b : Bool) : Gm := (kL_lay, lk ([] : List (Nat × Nat × Nat)), lk (caL_lay b), noT, noN, noV, (1, 6, false))
theorem gmL_lay (b : Bool) : Gmono (gL_lay b) := gm_lk rfl (List.forall_mem_cons.mpr ⟨moX8_lay b, fun _ h => absurd h List.not_mem_nil⟩)
def hdL_lay : Hdl := fun pc E => if pc = 4 ∧ E = "java/lang/IllegalStateException" then some (12, 1, 3) else none
theorem hsL_lay : hdSt RL cL_lay 4 [(0, 9, 12, 45)] [] hdL_lay := by
  intro pc E q hq
  unfold hdL_lay at hq
  split at hq
  · rename_i h
    obtain ⟨rfl, rfl⟩ := h
    cases hq
    exact ⟨[], ⟨0, 9, 12, 45⟩, [], "java/lang/IllegalStateException", rfl, fun z hz => absurd hz List.not_mem_nil, by decide, by decide, by decide +kernel, by decide +kernel, rfl, by decide, Or.inr ⟨3, rfl, (cdOk_at kL_lay_ok (show cdAt kL_lay 12 = some _ from rfl)).1, rfl⟩⟩
  · cases hq
def tL_lay (b : Bool) : Tm := pmTw (gL_lay b) hdL_lay 4
theorem moL_lay (b : Bool) : Tmono (tL_lay b) := pmTw_mono (gmL_lay b) 4
abbrev rmL_lay : Room := ({ frames := 8, cells := 1, slots := 6, locals := 168 } : Room)
theorem csL_lay (l : Launch) (D : va_G) (hl : l.stackTraces = false) (b : Bool) {p : Program} {e : Env} {s : State} {m : MethodId} {args : Array Value} {below : List Frame} {meth : Method} {c : Code} (C : CallFix p m c cL_lay 4 s args TG RL) : CallSnd p l e rmL_lay s m args below meth c D 4 4 (tX8_lay b) 2 1 6 (some 8) :=
  cs_V (ci := 8) (n := 1) (idx := 42) C (meX8_lay l D hl b) (cdOk_at kL_lay_ok (show cdAt kL_lay 4 = some _ from rfl)).1 wX8_lay_c wL_m42 wX8_lay_i wX8_lay_s wX8_z (by decide +kernel) rfl ⟨Nat.le_of_ble_eq_true rfl, Nat.le_of_ble_eq_true rfl⟩
theorem gcL_lay (l : Launch) (D : va_G) (hl : l.stackTraces = false) (b : Bool) : gCalls l D RL cL_lay 4 rmL_lay (gL_lay b) := gc_lk rfl (List.forall_mem_cons.mpr ⟨⟨fun p e s m args below meth c C => csL_lay l D hl b C, ⟨sel8_ok b, sel8_bk b⟩⟩, fun _ h => absurd h List.not_mem_nil⟩)
theorem goL_lay (b : Bool) : gOk RL "lay" cL_lay (some .int) (gL_lay b) := gOk_of kL_lay_ok (fun _ _ _ h => by cases h) (by cases b <;> decide +kernel) (Or.inl (by cases b <;> decide +kernel)) (fun pc E h => by cases h) (fun _ _ _ h => by cases h) (Or.inl (by cases b <;> decide +kernel))
theorem meL_lay (l : Launch) (D : va_G) (hl : l.stackTraces = false) (b : Bool) : pmMetH l D yL_lay cL_lay 4 (some .int) [(0, 9, 12, 45)] rmL_lay [] (tL_lay b) := pm_soundH (by decide +kernel) (goL_lay b) (gcL_lay l D hl b) rfl rfl ⟨Nat.le_of_ble_eq_true rfl, Nat.le_of_ble_eq_true rfl⟩ hsL_lay (fun _ => rfl) (fun _ => rfl) (na_of (show kL_lay.all naB = true by decide +kernel))
theorem tL_lay_i {b : Bool} {Q : Qt} {X : HX} {Y : HY} {p1 : Int32} (h : tX8_lay b [.ref 0, .int p1] (LX8 b) (sb (sel8 b) X) (sb (sel8 b) Y) (cWi (LX8 b) (sel8 b) (Lw b).length X Y (fun x X2 Y2 => Q (.inl (some (.int (nI 0)))) (Lw b) X2 (up2 Y2 79 0 x.toInt64)) (fun E X2 Y2 => (E = "java/lang/IllegalStateException" ∧ Q (.inl (some (.int (nI 1)))) (Lw b) X2 Y2)))) : tL_lay b [.ref 0, .int p1, .ref 79] (Lw b) X Y Q :=
  w_ent 4 (lv := [some (.ref 0), some (.int p1), some (.ref 79), none]) rfl rfl (w_load (gmL_lay b) 1 rfl rfl rfl rfl (w_pure (gmL_lay b) 2 _ rfl rfl rfl rfl (w_load (gmL_lay b) 3 rfl rfl rfl rfl (w_load (gmL_lay b) 4 rfl rfl rfl rfl (w_call1 (gmL_lay b) 7 _ _ rfl (by cases b <;> rfl) rfl rfl rfl rfl h (fun x X2 Y2 hx => w_pure (gmL_lay b) 8 _ rfl rfl rfl rfl (w_last (gmL_lay b) 9 rfl rfl (by cases b <;> rfl) rfl v1_0 (w_goto (gmL_lay b) 15 rfl rfl (w_pure (gmL_lay b) 16 _ rfl rfl rfl rfl (w_iret (gmL_lay b) rfl rfl rfl rfl hx))))) (fun E X2 Y2 hy => by obtain ⟨rfl, hz⟩ := hy; exact ⟨_, if_pos ⟨rfl, rfl⟩, w_pure (gmL_lay b) 14 _ rfl rfl rfl rfl (w_iret (gmL_lay b) rfl rfl rfl rfl hz)⟩))))))
def caL_stays (b : Bool) : List (Nat × Ce) := [(5, tX8_stays b, 3, 1, (2, 12), some ((Lw b), (sel8 b), (LX8 b), (LX8 b), (Lw b)), some 8)]
def gL_stays (b : Bool) : Gm := (kL_stays, lk ([] : List (Nat × Nat × Nat)), lk (caL_stays b), noT, noN, noV, (2, 12, false))
theorem gmL_stays (b : Bool) : Gmono (gL_stays b) := gm_lk rfl (List.forall_mem_cons.mpr ⟨moX8_stays b, fun _ h => absurd h List.not_mem_nil⟩)
def hdL_stays : Hdl := fun pc E => if pc = 5 ∧ E = "java/lang/IndexOutOfBoundsException" then some (13, 2, 4) else if pc = 5 ∧ E = "java/lang/IllegalStateException" then some (17, 2, 4) else none
theorem hsL_stays : hdSt RL cL_stays 5 [(0, 10, 13, 24), (0, 10, 17, 45)] [("java/lang/IllegalStateException", "java/lang/IndexOutOfBoundsException")] hdL_stays := by
  intro pc E q hq
  unfold hdL_stays at hq
  split at hq
  · rename_i h
    obtain ⟨rfl, rfl⟩ := h
    cases hq
    exact ⟨[], ⟨0, 10, 13, 24⟩, [⟨0, 10, 17, 45⟩], "java/lang/IndexOutOfBoundsException", rfl, fun z hz => absurd hz List.not_mem_nil, by decide, by decide, by decide +kernel, by decide +kernel, rfl, by decide, Or.inl ⟨(cdOk_at kL_stays_ok (show cdAt kL_stays 13 = some _ from rfl)).1, rfl⟩⟩
  · skip
    split at hq
    · rename_i h
      obtain ⟨rfl, rfl⟩ := h
      cases hq
      exact ⟨[⟨0, 10, 13, 24⟩], ⟨0, 10, 17, 45⟩, [], "java/lang/IllegalStateException", rfl, fun z hz => by rw [List.mem_singleton.mp hz]; exact Or.inr ⟨by decide, "java/lang/IndexOutOfBoundsException", by decide +kernel, by simp⟩, by decide, by decide, by decide +kernel, by decide +kernel, rfl, by decide, Or.inl ⟨(cdOk_at kL_stays_ok (show cdAt kL_stays 17 = some _ from rfl)).1, rfl⟩⟩
    · cases hq
def tL_stays (b : Bool) : Tm := pmTw (gL_stays b) hdL_stays 5
theorem moL_stays (b : Bool) : Tmono (tL_stays b) := pmTw_mono (gmL_stays b) 5
abbrev rmL_stays : Room := ({ frames := 8, cells := 2, slots := 12, locals := 169 } : Room)
theorem csL_stays (l : Launch) (D : va_G) (hl : l.stackTraces = false) (b : Bool) {p : Program} {e : Env} {s : State} {m : MethodId} {args : Array Value} {below : List Frame} {meth : Method} {c : Code} (C : CallFix p m c cL_stays 5 s args TG RL) : CallSnd p l e rmL_stays s m args below meth c D 5 5 (tX8_stays b) 3 2 12 (some 8) :=
  cs_V (ci := 8) (n := 2) (idx := 47) C (meX8_stays l D hl b) (cdOk_at kL_stays_ok (show cdAt kL_stays 5 = some _ from rfl)).1 wX8_stays_c wL_m47 wX8_stays_i wX8_stays_s wX8_z (by decide +kernel) rfl ⟨Nat.le_of_ble_eq_true rfl, Nat.le_of_ble_eq_true rfl⟩
theorem gcL_stays (l : Launch) (D : va_G) (hl : l.stackTraces = false) (b : Bool) : gCalls l D RL cL_stays 5 rmL_stays (gL_stays b) := gc_lk rfl (List.forall_mem_cons.mpr ⟨⟨fun p e s m args below meth c C => csL_stays l D hl b C, ⟨sel8_ok b, sel8_bk b⟩⟩, fun _ h => absurd h List.not_mem_nil⟩)
theorem goL_stays (b : Bool) : gOk RL "stays" cL_stays (some .int) (gL_stays b) := gOk_of kL_stays_ok (fun _ _ _ h => by cases h) (by cases b <;> decide +kernel) (Or.inl (by cases b <;> decide +kernel)) (fun pc E h => by cases h) (fun _ _ _ h => by cases h) (Or.inl (by cases b <;> decide +kernel))
theorem meL_stays (l : Launch) (D : va_G) (hl : l.stackTraces = false) (b : Bool) : pmMetH l D yL_stays cL_stays 5 (some .int) [(0, 10, 13, 24), (0, 10, 17, 45)] rmL_stays [("java/lang/IllegalStateException", "java/lang/IndexOutOfBoundsException")] (tL_stays b) := pm_soundH (by decide +kernel) (goL_stays b) (gcL_stays l D hl b) rfl rfl ⟨Nat.le_of_ble_eq_true rfl, Nat.le_of_ble_eq_true rfl⟩ hsL_stays (fun _ => rfl) (fun _ => rfl) (na_of (show kL_stays.all naB = true by decide +kernel))
theorem tL_stays_i {b : Bool} {Q : Qt} {X : HX} {Y : HY} {p1 p2 : Int32} (h : tX8_stays b [.ref 0, .int p1, .int p2] (LX8 b) (sb (sel8 b) X) (sb (sel8 b) Y) (cWi (LX8 b) (sel8 b) (Lw b).length X Y (fun x X2 Y2 => Q (.inl (some (.int (nI 0)))) (Lw b) X2 (up2 Y2 79 0 x.toInt64)) (fun E X2 Y2 => (E = "java/lang/IndexOutOfBoundsException" ∧ Q (.inl (some (.int (nI 1)))) (Lw b) X2 Y2) ∨ (E = "java/lang/IllegalStateException" ∧ Q (.inl (some (.int (nI 2)))) (Lw b) X2 Y2)))) : tL_stays b [.ref 0, .int p1, .int p2, .ref 79] (Lw b) X Y Q :=
  w_ent 5 (lv := [some (.ref 0), some (.int p1), some (.int p2), some (.ref 79), none]) rfl rfl (w_load (gmL_stays b) 1 rfl rfl rfl rfl (w_pure (gmL_stays b) 2 _ rfl rfl rfl rfl (w_load (gmL_stays b) 3 rfl rfl rfl rfl (w_load (gmL_stays b) 4 rfl rfl rfl rfl (w_load (gmL_stays b) 5 rfl rfl rfl rfl (w_call1 (gmL_stays b) 8 _ _ rfl (by cases b <;> rfl) rfl rfl rfl rfl h (fun x X2 Y2 hx => w_pure (gmL_stays b) 9 _ rfl rfl rfl rfl (w_last (gmL_stays b) 10 rfl rfl (by cases b <;> rfl) rfl v1_0 (w_goto (gmL_stays b) 21 rfl rfl (w_pure (gmL_stays b) 22 _ rfl rfl rfl rfl (w_iret (gmL_stays b) rfl rfl rfl rfl hx))))) (fun E X2 Y2 hx => hx.elim (fun hy => by obtain ⟨rfl, hz⟩ := hy; exact ⟨_, if_pos ⟨rfl, rfl⟩, w_pure (gmL_stays b) 16 _ rfl rfl rfl rfl (w_iret (gmL_stays b) rfl rfl rfl rfl hz)⟩) (fun hy => by obtain ⟨rfl, hz⟩ := hy; exact ⟨_, (if_neg (by decide)).trans (if_pos ⟨rfl, rfl⟩), w_pure (gmL_stays b) 20 _ rfl rfl rfl rfl (w_iret (gmL_stays b) rfl rfl rfl rfl hz)⟩))))))))
def caL_node (b : Bool) : List (Nat × Ce) := [(5, tX8_node b, 3, 1, (2, 12), some ((Lw b), (sel8 b), (LX8 b), (LX8 b), (Lw b)), some 8)]
def gL_node (b : Bool) : Gm := (kL_node, lk ([] : List (Nat × Nat × Nat)), lk (caL_node b), noT, noN, noV, (2, 12, false))
theorem gmL_node (b : Bool) : Gmono (gL_node b) := gm_lk rfl (List.forall_mem_cons.mpr ⟨moX8_node b, fun _ h => absurd h List.not_mem_nil⟩)
def hdL_node : Hdl := fun pc E => if pc = 5 ∧ E = "java/lang/IllegalStateException" then some (13, 2, 4) else if pc = 5 ∧ E = "java/util/NoSuchElementException" then some (17, 2, 4) else none
theorem hsL_node : hdSt RL cL_node 5 [(0, 10, 13, 45), (0, 10, 17, 26)] [("java/util/NoSuchElementException", "java/lang/IllegalStateException")] hdL_node := by
  intro pc E q hq
  unfold hdL_node at hq
  split at hq
  · rename_i h
    obtain ⟨rfl, rfl⟩ := h
    cases hq
    exact ⟨[], ⟨0, 10, 13, 45⟩, [⟨0, 10, 17, 26⟩], "java/lang/IllegalStateException", rfl, fun z hz => absurd hz List.not_mem_nil, by decide, by decide, by decide +kernel, by decide +kernel, rfl, by decide, Or.inl ⟨(cdOk_at kL_node_ok (show cdAt kL_node 13 = some _ from rfl)).1, rfl⟩⟩
  · skip
    split at hq
    · rename_i h
      obtain ⟨rfl, rfl⟩ := h
      cases hq
      exact ⟨[⟨0, 10, 13, 45⟩], ⟨0, 10, 17, 26⟩, [], "java/util/NoSuchElementException", rfl, fun z hz => by rw [List.mem_singleton.mp hz]; exact Or.inr ⟨by decide, "java/lang/IllegalStateException", by decide +kernel, by simp⟩, by decide, by decide, by decide +kernel, by decide +kernel, rfl, by decide, Or.inl ⟨(cdOk_at kL_node_ok (show cdAt kL_node 17 = some _ from rfl)).1, rfl⟩⟩
    · cases hq
def tL_node (b : Bool) : Tm := pmTw (gL_node b) hdL_node 5
theorem moL_node (b : Bool) : Tmono (tL_node b) := pmTw_mono (gmL_node b) 5
abbrev rmL_node : Room := ({ frames := 8, cells := 2, slots := 12, locals := 175 } : Room)
theorem csL_node (l : Launch) (D : va_G) (hl : l.stackTraces = false) (b : Bool) {p : Program} {e : Env} {s : State} {m : MethodId} {args : Array Value} {below : List Frame} {meth : Method} {c : Code} (C : CallFix p m c cL_node 5 s args TG RL) : CallSnd p l e rmL_node s m args below meth c D 5 5 (tX8_node b) 3 2 12 (some 8) :=
  cs_V (ci := 8) (n := 2) (idx := 51) C (meX8_node l D hl b) (cdOk_at kL_node_ok (show cdAt kL_node 5 = some _ from rfl)).1 wX8_node_c wL_m51 wX8_node_i wX8_node_s wX8_z (by decide +kernel) rfl ⟨Nat.le_of_ble_eq_true rfl, Nat.le_of_ble_eq_true rfl⟩
theorem gcL_node (l : Launch) (D : va_G) (hl : l.stackTraces = false) (b : Bool) : gCalls l D RL cL_node 5 rmL_node (gL_node b) := gc_lk rfl (List.forall_mem_cons.mpr ⟨⟨fun p e s m args below meth c C => csL_node l D hl b C, ⟨sel8_ok b, sel8_bk b⟩⟩, fun _ h => absurd h List.not_mem_nil⟩)
theorem goL_node (b : Bool) : gOk RL "node" cL_node (some .int) (gL_node b) := gOk_of kL_node_ok (fun _ _ _ h => by cases h) (by cases b <;> decide +kernel) (Or.inl (by cases b <;> decide +kernel)) (fun pc E h => by cases h) (fun _ _ _ h => by cases h) (Or.inl (by cases b <;> decide +kernel))
theorem meL_node (l : Launch) (D : va_G) (hl : l.stackTraces = false) (b : Bool) : pmMetH l D yL_node cL_node 5 (some .int) [(0, 10, 13, 45), (0, 10, 17, 26)] rmL_node [("java/util/NoSuchElementException", "java/lang/IllegalStateException")] (tL_node b) := pm_soundH (by decide +kernel) (goL_node b) (gcL_node l D hl b) rfl rfl ⟨Nat.le_of_ble_eq_true rfl, Nat.le_of_ble_eq_true rfl⟩ hsL_node (fun _ => rfl) (fun _ => rfl) (na_of (show kL_node.all naB = true by decide +kernel))
theorem tL_node_i {b : Bool} {Q : Qt} {X : HX} {Y : HY} {p1 p2 : Int32} (h : tX8_node b [.ref 0, .int p1, .int p2] (LX8 b) (sb (sel8 b) X) (sb (sel8 b) Y) (cWi (LX8 b) (sel8 b) (Lw b).length X Y (fun x X2 Y2 => Q (.inl (some (.int (nI 0)))) (Lw b) X2 (up2 Y2 79 0 x.toInt64)) (fun E X2 Y2 => (E = "java/lang/IllegalStateException" ∧ Q (.inl (some (.int (nI 1)))) (Lw b) X2 Y2) ∨ (E = "java/util/NoSuchElementException" ∧ Q (.inl (some (.int (nI 2)))) (Lw b) X2 Y2)))) : tL_node b [.ref 0, .int p1, .int p2, .ref 79] (Lw b) X Y Q :=
  w_ent 5 (lv := [some (.ref 0), some (.int p1), some (.int p2), some (.ref 79), none]) rfl rfl (w_load (gmL_node b) 1 rfl rfl rfl rfl (w_pure (gmL_node b) 2 _ rfl rfl rfl rfl (w_load (gmL_node b) 3 rfl rfl rfl rfl (w_load (gmL_node b) 4 rfl rfl rfl rfl (w_load (gmL_node b) 5 rfl rfl rfl rfl (w_call1 (gmL_node b) 8 _ _ rfl (by cases b <;> rfl) rfl rfl rfl rfl h (fun x X2 Y2 hx => w_pure (gmL_node b) 9 _ rfl rfl rfl rfl (w_last (gmL_node b) 10 rfl rfl (by cases b <;> rfl) rfl v1_0 (w_goto (gmL_node b) 21 rfl rfl (w_pure (gmL_node b) 22 _ rfl rfl rfl rfl (w_iret (gmL_node b) rfl rfl rfl rfl hx))))) (fun E X2 Y2 hx => hx.elim (fun hy => by obtain ⟨rfl, hz⟩ := hy; exact ⟨_, if_pos ⟨rfl, rfl⟩, w_pure (gmL_node b) 16 _ rfl rfl rfl rfl (w_iret (gmL_node b) rfl rfl rfl rfl hz)⟩) (fun hy => by obtain ⟨rfl, hz⟩ := hy; exact ⟨_, (if_neg (by decide)).trans (if_pos ⟨rfl, rfl⟩), w_pure (gmL_node b) 20 _ rfl rfl rfl rfl (w_iret (gmL_node b) rfl rfl rfl rfl hz)⟩))))))))
def caL_between (b : Bool) : List (Nat × Ce) := [(7, tX8_between b, 4, 1, (4, 24), some ((Lw b), (sel8 b), (LX8 b), (LX8 b), (Lw b)), some 8)]
def gL_between (b : Bool) : Gm := (kL_between, lk ([] : List (Nat × Nat × Nat)), lk (caL_between b), noT, noN, noV, (4, 24, false))
theorem gmL_between (b : Bool) : Gmono (gL_between b) := gm_lk rfl (List.forall_mem_cons.mpr ⟨moX8_between b, fun _ h => absurd h List.not_mem_nil⟩)
def hdL_between : Hdl := fun pc E => if pc = 7 ∧ E = "java/lang/IndexOutOfBoundsException" then some (22, 2, 5) else if pc = 7 ∧ E = "java/lang/IllegalStateException" then some (26, 2, 5) else none
theorem hsL_between : hdSt RL cL_between 6 [(0, 19, 22, 24), (0, 19, 26, 45)] [("java/lang/IllegalStateException", "java/lang/IndexOutOfBoundsException")] hdL_between := by
  intro pc E q hq
  unfold hdL_between at hq
  split at hq
  · rename_i h
    obtain ⟨rfl, rfl⟩ := h
    cases hq
    exact ⟨[], ⟨0, 19, 22, 24⟩, [⟨0, 19, 26, 45⟩], "java/lang/IndexOutOfBoundsException", rfl, fun z hz => absurd hz List.not_mem_nil, by decide, by decide, by decide +kernel, by decide +kernel, rfl, by decide, Or.inl ⟨(cdOk_at kL_between_ok (show cdAt kL_between 22 = some _ from rfl)).1, rfl⟩⟩
  · skip
    split at hq
    · rename_i h
      obtain ⟨rfl, rfl⟩ := h
      cases hq
      exact ⟨[⟨0, 19, 22, 24⟩], ⟨0, 19, 26, 45⟩, [], "java/lang/IllegalStateException", rfl, fun z hz => by rw [List.mem_singleton.mp hz]; exact Or.inr ⟨by decide, "java/lang/IndexOutOfBoundsException", by decide +kernel, by simp⟩, by decide, by decide, by decide +kernel, by decide +kernel, rfl, by decide, Or.inl ⟨(cdOk_at kL_between_ok (show cdAt kL_between 26 = some _ from rfl)).1, rfl⟩⟩
    · cases hq
def tL_between (b : Bool) : Tm := pmTw (gL_between b) hdL_between 6
theorem moL_between (b : Bool) : Tmono (tL_between b) := pmTw_mono (gmL_between b) 6
abbrev rmL_between : Room := ({ frames := 8, cells := 4, slots := 24, locals := 172 } : Room)
theorem csL_between (l : Launch) (D : va_G) (hl : l.stackTraces = false) (b : Bool) {p : Program} {e : Env} {s : State} {m : MethodId} {args : Array Value} {below : List Frame} {meth : Method} {c : Code} (C : CallFix p m c cL_between 6 s args TG RL) : CallSnd p l e rmL_between s m args below meth c D 6 7 (tX8_between b) 4 4 24 (some 8) :=
  cs_V (ci := 8) (n := 3) (idx := 54) C (meX8_between l D hl b) (cdOk_at kL_between_ok (show cdAt kL_between 7 = some _ from rfl)).1 wX8_between_c wL_m54 wX8_between_i wX8_between_s wX8_z (by decide +kernel) rfl ⟨Nat.le_of_ble_eq_true rfl, Nat.le_of_ble_eq_true rfl⟩
theorem gcL_between (l : Launch) (D : va_G) (hl : l.stackTraces = false) (b : Bool) : gCalls l D RL cL_between 6 rmL_between (gL_between b) := gc_lk rfl (List.forall_mem_cons.mpr ⟨⟨fun p e s m args below meth c C => csL_between l D hl b C, ⟨sel8_ok b, sel8_bk b⟩⟩, fun _ h => absurd h List.not_mem_nil⟩)
theorem goL_between (b : Bool) : gOk RL "between" cL_between (some .int) (gL_between b) := gOk_of kL_between_ok (fun _ _ _ h => by cases h) (by cases b <;> decide +kernel) (Or.inl (by cases b <;> decide +kernel)) (fun pc E h => by cases h) (fun _ _ _ h => by cases h) (Or.inl (by cases b <;> decide +kernel))
theorem meL_between (l : Launch) (D : va_G) (hl : l.stackTraces = false) (b : Bool) : pmMetH l D yL_between cL_between 6 (some .int) [(0, 19, 22, 24), (0, 19, 26, 45)] rmL_between [("java/lang/IllegalStateException", "java/lang/IndexOutOfBoundsException")] (tL_between b) := pm_soundH (by decide +kernel) (goL_between b) (gcL_between l D hl b) rfl rfl ⟨Nat.le_of_ble_eq_true rfl, Nat.le_of_ble_eq_true rfl⟩ hsL_between (fun _ => rfl) (fun _ => rfl) (na_of (show kL_between.all naB = true by decide +kernel))
theorem tL_between_i {b : Bool} {Q : Qt} {X : HX} {Y : HY} {p1 p2 p3 : Int32} (h : tX8_between b [.ref 0, .int p1, .int p2, .int p3] (LX8 b) (sb (sel8 b) X) (sb (sel8 b) Y) (cWi (LX8 b) (sel8 b) (Lw b).length X Y (fun x X2 Y2 => (x = 0 → Q (.inl (some (.int (nI 0)))) (Lw b) X2 (up2 Y2 79 0 (lN 0))) ∧ (¬ x = 0 → Q (.inl (some (.int (nI 0)))) (Lw b) X2 (up2 Y2 79 0 (lN 1)))) (fun E X2 Y2 => (E = "java/lang/IndexOutOfBoundsException" ∧ Q (.inl (some (.int (nI 1)))) (Lw b) X2 Y2) ∨ (E = "java/lang/IllegalStateException" ∧ Q (.inl (some (.int (nI 2)))) (Lw b) X2 Y2)))) : tL_between b [.ref 0, .int p1, .int p2, .int p3, .ref 79] (Lw b) X Y Q :=
  w_ent 6 (lv := [some (.ref 0), some (.int p1), some (.int p2), some (.int p3), some (.ref 79), none]) rfl rfl (w_load (gmL_between b) 2 rfl rfl rfl rfl (w_pure (gmL_between b) 3 _ rfl rfl rfl rfl (w_load (gmL_between b) 4 rfl rfl rfl rfl (w_load (gmL_between b) 5 rfl rfl rfl rfl (w_load (gmL_between b) 6 rfl rfl rfl rfl (w_load (gmL_between b) 7 rfl rfl rfl rfl (w_call1 (gmL_between b) 10 _ _ rfl (by cases b <;> rfl) rfl rfl rfl rfl h (fun x X2 Y2 hx => w_if (gmL_between b) 17 13 rfl rfl rfl (fun e => w_pure (gmL_between b) 18 _ rfl rfl rfl rfl (w_last (gmL_between b) 19 rfl rfl (by cases b <;> rfl) rfl v1_0 (w_goto (gmL_between b) 30 rfl rfl (w_pure (gmL_between b) 31 _ rfl rfl rfl rfl (w_iret (gmL_between b) rfl rfl rfl rfl (hx.1 e)))))) (fun e => w_pure (gmL_between b) 14 _ rfl rfl rfl rfl (w_goto (gmL_between b) 18 rfl rfl (w_last (gmL_between b) 19 rfl rfl (by cases b <;> rfl) rfl v1_0 (w_goto (gmL_between b) 30 rfl rfl (w_pure (gmL_between b) 31 _ rfl rfl rfl rfl (w_iret (gmL_between b) rfl rfl rfl rfl (hx.2 e)))))))) (fun E X2 Y2 hx => hx.elim (fun hy => by obtain ⟨rfl, hz⟩ := hy; exact ⟨_, if_pos ⟨rfl, rfl⟩, w_pure (gmL_between b) 25 _ rfl rfl rfl rfl (w_iret (gmL_between b) rfl rfl rfl rfl hz)⟩) (fun hy => by obtain ⟨rfl, hz⟩ := hy; exact ⟨_, (if_neg (by decide)).trans (if_pos ⟨rfl, rfl⟩), w_pure (gmL_between b) 29 _ rfl rfl rfl rfl (w_iret (gmL_between b) rfl rfl rfl rfl hz)⟩)))))))))
def caL_stay (b : Bool) : List (Nat × Ce) := [(4, tX8_stay b, 4, 0, (2, 12), some ((Lw b), (sel8 b), (LX8 b), (LX8 b), (Lw b)), some 8)]
def gL_stay (b : Bool) : Gm := (kL_stay, lk ([] : List (Nat × Nat × Nat)), lk (caL_stay b), noT, noN, noV, (2, 12, false))
theorem gmL_stay (b : Bool) : Gmono (gL_stay b) := gm_lk rfl (List.forall_mem_cons.mpr ⟨moX8_stay b, fun _ h => absurd h List.not_mem_nil⟩)
def hdL_stay : Hdl := fun pc E => if pc = 4 ∧ E = "java/lang/IndexOutOfBoundsException" then some (10, 2, 4) else if pc = 4 ∧ E = "java/lang/IllegalArgumentException" then some (14, 2, 4) else none
theorem hsL_stay : hdSt RL cL_stay 5 [(0, 7, 10, 24), (0, 7, 14, 18)] [("java/lang/IllegalArgumentException", "java/lang/IndexOutOfBoundsException")] hdL_stay := by
  intro pc E q hq
  unfold hdL_stay at hq
  split at hq
  · rename_i h
    obtain ⟨rfl, rfl⟩ := h
    cases hq
    exact ⟨[], ⟨0, 7, 10, 24⟩, [⟨0, 7, 14, 18⟩], "java/lang/IndexOutOfBoundsException", rfl, fun z hz => absurd hz List.not_mem_nil, by decide, by decide, by decide +kernel, by decide +kernel, rfl, by decide, Or.inl ⟨(cdOk_at kL_stay_ok (show cdAt kL_stay 10 = some _ from rfl)).1, rfl⟩⟩
  · skip
    split at hq
    · rename_i h
      obtain ⟨rfl, rfl⟩ := h
      cases hq
      exact ⟨[⟨0, 7, 10, 24⟩], ⟨0, 7, 14, 18⟩, [], "java/lang/IllegalArgumentException", rfl, fun z hz => by rw [List.mem_singleton.mp hz]; exact Or.inr ⟨by decide, "java/lang/IndexOutOfBoundsException", by decide +kernel, by simp⟩, by decide, by decide, by decide +kernel, by decide +kernel, rfl, by decide, Or.inl ⟨(cdOk_at kL_stay_ok (show cdAt kL_stay 14 = some _ from rfl)).1, rfl⟩⟩
    · cases hq
def tL_stay (b : Bool) : Tm := pmTw (gL_stay b) hdL_stay 5
theorem moL_stay (b : Bool) : Tmono (tL_stay b) := pmTw_mono (gmL_stay b) 5
abbrev rmL_stay : Room := ({ frames := 8, cells := 2, slots := 12, locals := 133 } : Room)
theorem csL_stay (l : Launch) (D : va_G) (hl : l.stackTraces = false) (b : Bool) {p : Program} {e : Env} {s : State} {m : MethodId} {args : Array Value} {below : List Frame} {meth : Method} {c : Code} (C : CallFix p m c cL_stay 5 s args TG RL) : CallSnd p l e rmL_stay s m args below meth c D 5 4 (tX8_stay b) 4 2 12 (some 8) :=
  cs_V (ci := 8) (n := 3) (idx := 58) C (meX8_stay l D hl b) (cdOk_at kL_stay_ok (show cdAt kL_stay 4 = some _ from rfl)).1 wX8_stay_c wL_m58 wX8_stay_i wX8_stay_s wX8_z (by decide +kernel) rfl ⟨Nat.le_of_ble_eq_true rfl, Nat.le_of_ble_eq_true rfl⟩
theorem gcL_stay (l : Launch) (D : va_G) (hl : l.stackTraces = false) (b : Bool) : gCalls l D RL cL_stay 5 rmL_stay (gL_stay b) := gc_lk rfl (List.forall_mem_cons.mpr ⟨⟨fun p e s m args below meth c C => csL_stay l D hl b C, ⟨sel8_ok b, sel8_bk b⟩⟩, fun _ h => absurd h List.not_mem_nil⟩)
theorem goL_stay (b : Bool) : gOk RL "stay" cL_stay (some .int) (gL_stay b) := gOk_of kL_stay_ok (fun _ _ _ h => by cases h) (by cases b <;> decide +kernel) (Or.inl (by cases b <;> decide +kernel)) (fun pc E h => by cases h) (fun _ _ _ h => by cases h) (Or.inl (by cases b <;> decide +kernel))
theorem meL_stay (l : Launch) (D : va_G) (hl : l.stackTraces = false) (b : Bool) : pmMetH l D yL_stay cL_stay 5 (some .int) [(0, 7, 10, 24), (0, 7, 14, 18)] rmL_stay [("java/lang/IllegalArgumentException", "java/lang/IndexOutOfBoundsException")] (tL_stay b) := pm_soundH (by decide +kernel) (goL_stay b) (gcL_stay l D hl b) rfl rfl ⟨Nat.le_of_ble_eq_true rfl, Nat.le_of_ble_eq_true rfl⟩ hsL_stay (fun _ => rfl) (fun _ => rfl) (na_of (show kL_stay.all naB = true by decide +kernel))
theorem tL_stay_i {b : Bool} {Q : Qt} {X : HX} {Y : HY} {p1 p2 p3 : Int32} (h : tX8_stay b [.ref 0, .int p1, .int p2, .int p3] (LX8 b) (sb (sel8 b) X) (sb (sel8 b) Y) (cWv (LX8 b) (sel8 b) (Lw b).length X Y (fun X2 Y2 => Q (.inl (some (.int (nI 0)))) (Lw b) X2 Y2) (fun E X2 Y2 => (E = "java/lang/IndexOutOfBoundsException" ∧ Q (.inl (some (.int (nI 1)))) (Lw b) X2 Y2) ∨ (E = "java/lang/IllegalArgumentException" ∧ Q (.inl (some (.int (nI 2)))) (Lw b) X2 Y2)))) : tL_stay b [.ref 0, .int p1, .int p2, .int p3] (Lw b) X Y Q :=
  w_ent 5 (lv := [some (.ref 0), some (.int p1), some (.int p2), some (.int p3), none]) rfl rfl (w_load (gmL_stay b) 1 rfl rfl rfl rfl (w_load (gmL_stay b) 2 rfl rfl rfl rfl (w_load (gmL_stay b) 3 rfl rfl rfl rfl (w_load (gmL_stay b) 4 rfl rfl rfl rfl (w_call0 (gmL_stay b) 7 _ _ rfl (by cases b <;> rfl) rfl rfl rfl rfl h (fun X2 Y2 hx => w_goto (gmL_stay b) 18 rfl rfl (w_pure (gmL_stay b) 19 _ rfl rfl rfl rfl (w_iret (gmL_stay b) rfl rfl rfl rfl hx))) (fun E X2 Y2 hx => hx.elim (fun hy => by obtain ⟨rfl, hz⟩ := hy; exact ⟨_, if_pos ⟨rfl, rfl⟩, w_pure (gmL_stay b) 13 _ rfl rfl rfl rfl (w_iret (gmL_stay b) rfl rfl rfl rfl hz)⟩) (fun hy => by obtain ⟨rfl, hz⟩ := hy; exact ⟨_, (if_neg (by decide)).trans (if_pos ⟨rfl, rfl⟩), w_pure (gmL_stay b) 17 _ rfl rfl rfl rfl (w_iret (gmL_stay b) rfl rfl rfl rfl hz)⟩)))))))
def caL_judge (b : Bool) : List (Nat × Ce) := [(4, tX8_judge b, 2, 1, (1, 6), some ((Lw b), (sel8 b), (LX8 b), (LX8 b), (Lw b)), some 8)]
def gL_judge (b : Bool) : Gm := (kL_judge, lk ([] : List (Nat × Nat × Nat)), lk (caL_judge b), noT, noN, noV, (1, 6, false))
theorem gmL_judge (b : Bool) : Gmono (gL_judge b) := gm_lk rfl (List.forall_mem_cons.mpr ⟨moX8_judge b, fun _ h => absurd h List.not_mem_nil⟩)
def hdL_judge : Hdl := fun pc E => if pc = 4 ∧ E = "java/util/NoSuchElementException" then some (12, 1, 3) else none
theorem hsL_judge : hdSt RL cL_judge 4 [(0, 9, 12, 26)] [] hdL_judge := by
  intro pc E q hq
  unfold hdL_judge at hq
  split at hq
  · rename_i h
    obtain ⟨rfl, rfl⟩ := h
    cases hq
    exact ⟨[], ⟨0, 9, 12, 26⟩, [], "java/util/NoSuchElementException", rfl, fun z hz => absurd hz List.not_mem_nil, by decide, by decide, by decide +kernel, by decide +kernel, rfl, by decide, Or.inr ⟨3, rfl, (cdOk_at kL_judge_ok (show cdAt kL_judge 12 = some _ from rfl)).1, rfl⟩⟩
  · cases hq
def tL_judge (b : Bool) : Tm := pmTw (gL_judge b) hdL_judge 4
theorem moL_judge (b : Bool) : Tmono (tL_judge b) := pmTw_mono (gmL_judge b) 4
abbrev rmL_judge : Room := ({ frames := 7, cells := 1, slots := 6, locals := 113 } : Room)
theorem csL_judge (l : Launch) (D : va_G) (hl : l.stackTraces = false) (b : Bool) {p : Program} {e : Env} {s : State} {m : MethodId} {args : Array Value} {below : List Frame} {meth : Method} {c : Code} (C : CallFix p m c cL_judge 4 s args TG RL) : CallSnd p l e rmL_judge s m args below meth c D 4 4 (tX8_judge b) 2 1 6 (some 8) :=
  cs_V (ci := 8) (n := 1) (idx := 62) C (meX8_judge l D hl b) (cdOk_at kL_judge_ok (show cdAt kL_judge 4 = some _ from rfl)).1 wX8_judge_c wL_m62 wX8_judge_i wX8_judge_s wX8_z (by decide +kernel) rfl ⟨Nat.le_of_ble_eq_true rfl, Nat.le_of_ble_eq_true rfl⟩
theorem gcL_judge (l : Launch) (D : va_G) (hl : l.stackTraces = false) (b : Bool) : gCalls l D RL cL_judge 4 rmL_judge (gL_judge b) := gc_lk rfl (List.forall_mem_cons.mpr ⟨⟨fun p e s m args below meth c C => csL_judge l D hl b C, ⟨sel8_ok b, sel8_bk b⟩⟩, fun _ h => absurd h List.not_mem_nil⟩)
theorem goL_judge (b : Bool) : gOk RL "judge" cL_judge (some .int) (gL_judge b) := gOk_of kL_judge_ok (fun _ _ _ h => by cases h) (by cases b <;> decide +kernel) (Or.inl (by cases b <;> decide +kernel)) (fun pc E h => by cases h) (fun _ _ _ h => by cases h) (Or.inl (by cases b <;> decide +kernel))
theorem meL_judge (l : Launch) (D : va_G) (hl : l.stackTraces = false) (b : Bool) : pmMetH l D yL_judge cL_judge 4 (some .int) [(0, 9, 12, 26)] rmL_judge [] (tL_judge b) := pm_soundH (by decide +kernel) (goL_judge b) (gcL_judge l D hl b) rfl rfl ⟨Nat.le_of_ble_eq_true rfl, Nat.le_of_ble_eq_true rfl⟩ hsL_judge (fun _ => rfl) (fun _ => rfl) (na_of (show kL_judge.all naB = true by decide +kernel))
theorem tL_judge_i {b : Bool} {Q : Qt} {X : HX} {Y : HY} {p1 : Int32} (h : tX8_judge b [.ref 0, .int p1] (LX8 b) (sb (sel8 b) X) (sb (sel8 b) Y) (cWi (LX8 b) (sel8 b) (Lw b).length X Y (fun x X2 Y2 => Q (.inl (some (.int (nI 0)))) (Lw b) X2 (up2 Y2 79 0 x.toInt64)) (fun E X2 Y2 => (E = "java/util/NoSuchElementException" ∧ Q (.inl (some (.int (nI 1)))) (Lw b) X2 Y2)))) : tL_judge b [.ref 0, .int p1, .ref 79] (Lw b) X Y Q :=
  w_ent 4 (lv := [some (.ref 0), some (.int p1), some (.ref 79), none]) rfl rfl (w_load (gmL_judge b) 1 rfl rfl rfl rfl (w_pure (gmL_judge b) 2 _ rfl rfl rfl rfl (w_load (gmL_judge b) 3 rfl rfl rfl rfl (w_load (gmL_judge b) 4 rfl rfl rfl rfl (w_call1 (gmL_judge b) 7 _ _ rfl (by cases b <;> rfl) rfl rfl rfl rfl h (fun x X2 Y2 hx => w_pure (gmL_judge b) 8 _ rfl rfl rfl rfl (w_last (gmL_judge b) 9 rfl rfl (by cases b <;> rfl) rfl v1_0 (w_goto (gmL_judge b) 15 rfl rfl (w_pure (gmL_judge b) 16 _ rfl rfl rfl rfl (w_iret (gmL_judge b) rfl rfl rfl rfl hx))))) (fun E X2 Y2 hy => by obtain ⟨rfl, hz⟩ := hy; exact ⟨_, if_pos ⟨rfl, rfl⟩, w_pure (gmL_judge b) 14 _ rfl rfl rfl rfl (w_iret (gmL_judge b) rfl rfl rfl rfl hz)⟩))))))
def caL_lies (b : Bool) : List (Nat × Ce) := [(4, tX8_lies b, 2, 1, (1, 6), some ((Lw b), (sel8 b), (LX8 b), (LX8 b), (Lw b)), some 8)]
def gL_lies (b : Bool) : Gm := (kL_lies, lk ([] : List (Nat × Nat × Nat)), lk (caL_lies b), noT, noN, noV, (1, 6, false))
theorem gmL_lies (b : Bool) : Gmono (gL_lies b) := gm_lk rfl (List.forall_mem_cons.mpr ⟨moX8_lies b, fun _ h => absurd h List.not_mem_nil⟩)
def hdL_lies : Hdl := fun pc E => if pc = 4 ∧ E = "java/util/NoSuchElementException" then some (12, 1, 3) else none
theorem hsL_lies : hdSt RL cL_lies 4 [(0, 9, 12, 26)] [] hdL_lies := by
  intro pc E q hq
  unfold hdL_lies at hq
  split at hq
  · rename_i h
    obtain ⟨rfl, rfl⟩ := h
    cases hq
    exact ⟨[], ⟨0, 9, 12, 26⟩, [], "java/util/NoSuchElementException", rfl, fun z hz => absurd hz List.not_mem_nil, by decide, by decide, by decide +kernel, by decide +kernel, rfl, by decide, Or.inr ⟨3, rfl, (cdOk_at kL_lies_ok (show cdAt kL_lies 12 = some _ from rfl)).1, rfl⟩⟩
  · cases hq
def tL_lies (b : Bool) : Tm := pmTw (gL_lies b) hdL_lies 4
theorem moL_lies (b : Bool) : Tmono (tL_lies b) := pmTw_mono (gmL_lies b) 4
abbrev rmL_lies : Room := ({ frames := 9, cells := 1, slots := 6, locals := 217 } : Room)
theorem csL_lies (l : Launch) (D : va_G) (hl : l.stackTraces = false) (b : Bool) {p : Program} {e : Env} {s : State} {m : MethodId} {args : Array Value} {below : List Frame} {meth : Method} {c : Code} (C : CallFix p m c cL_lies 4 s args TG RL) : CallSnd p l e rmL_lies s m args below meth c D 4 4 (tX8_lies b) 2 1 6 (some 8) :=
  cs_V (ci := 8) (n := 1) (idx := 65) C (meX8_lies l D hl b) (cdOk_at kL_lies_ok (show cdAt kL_lies 4 = some _ from rfl)).1 wX8_lies_c wL_m65 wX8_lies_i wX8_lies_s wX8_z (by decide +kernel) rfl ⟨Nat.le_of_ble_eq_true rfl, Nat.le_of_ble_eq_true rfl⟩
theorem gcL_lies (l : Launch) (D : va_G) (hl : l.stackTraces = false) (b : Bool) : gCalls l D RL cL_lies 4 rmL_lies (gL_lies b) := gc_lk rfl (List.forall_mem_cons.mpr ⟨⟨fun p e s m args below meth c C => csL_lies l D hl b C, ⟨sel8_ok b, sel8_bk b⟩⟩, fun _ h => absurd h List.not_mem_nil⟩)
theorem goL_lies (b : Bool) : gOk RL "lies" cL_lies (some .int) (gL_lies b) := gOk_of kL_lies_ok (fun _ _ _ h => by cases h) (by cases b <;> decide +kernel) (Or.inl (by cases b <;> decide +kernel)) (fun pc E h => by cases h) (fun _ _ _ h => by cases h) (Or.inl (by cases b <;> decide +kernel))
theorem meL_lies (l : Launch) (D : va_G) (hl : l.stackTraces = false) (b : Bool) : pmMetH l D yL_lies cL_lies 4 (some .int) [(0, 9, 12, 26)] rmL_lies [] (tL_lies b) := pm_soundH (by decide +kernel) (goL_lies b) (gcL_lies l D hl b) rfl rfl ⟨Nat.le_of_ble_eq_true rfl, Nat.le_of_ble_eq_true rfl⟩ hsL_lies (fun _ => rfl) (fun _ => rfl) (na_of (show kL_lies.all naB = true by decide +kernel))
theorem tL_lies_i {b : Bool} {Q : Qt} {X : HX} {Y : HY} {p1 : Int32} (h : tX8_lies b [.ref 0, .int p1] (LX8 b) (sb (sel8 b) X) (sb (sel8 b) Y) (cWi (LX8 b) (sel8 b) (Lw b).length X Y (fun x X2 Y2 => Q (.inl (some (.int (nI 0)))) (Lw b) X2 (up2 Y2 79 0 x.toInt64)) (fun E X2 Y2 => (E = "java/util/NoSuchElementException" ∧ Q (.inl (some (.int (nI 1)))) (Lw b) X2 Y2)))) : tL_lies b [.ref 0, .int p1, .ref 79] (Lw b) X Y Q :=
  w_ent 4 (lv := [some (.ref 0), some (.int p1), some (.ref 79), none]) rfl rfl (w_load (gmL_lies b) 1 rfl rfl rfl rfl (w_pure (gmL_lies b) 2 _ rfl rfl rfl rfl (w_load (gmL_lies b) 3 rfl rfl rfl rfl (w_load (gmL_lies b) 4 rfl rfl rfl rfl (w_call1 (gmL_lies b) 7 _ _ rfl (by cases b <;> rfl) rfl rfl rfl rfl h (fun x X2 Y2 hx => w_pure (gmL_lies b) 8 _ rfl rfl rfl rfl (w_last (gmL_lies b) 9 rfl rfl (by cases b <;> rfl) rfl v1_0 (w_goto (gmL_lies b) 15 rfl rfl (w_pure (gmL_lies b) 16 _ rfl rfl rfl rfl (w_iret (gmL_lies b) rfl rfl rfl rfl hx))))) (fun E X2 Y2 hy => by obtain ⟨rfl, hz⟩ := hy; exact ⟨_, if_pos ⟨rfl, rfl⟩, w_pure (gmL_lies b) 14 _ rfl rfl rfl rfl (w_iret (gmL_lies b) rfl rfl rfl rfl hz)⟩))))))
def caL_leave (b : Bool) : List (Nat × Ce) := [(4, tX8_leave b, 2, 1, (1, 6), some ((Lw b), (sel8 b), (LX8 b), (LX8 b), (Lw b)), some 8)]
def gL_leave (b : Bool) : Gm := (kL_leave, lk ([] : List (Nat × Nat × Nat)), lk (caL_leave b), noT, noN, noV, (1, 6, false))
theorem gmL_leave (b : Bool) : Gmono (gL_leave b) := gm_lk rfl (List.forall_mem_cons.mpr ⟨moX8_leave b, fun _ h => absurd h List.not_mem_nil⟩)
def hdL_leave : Hdl := fun pc E => if pc = 4 ∧ E = "java/util/NoSuchElementException" then some (12, 1, 3) else none
theorem hsL_leave : hdSt RL cL_leave 4 [(0, 9, 12, 26)] [] hdL_leave := by
  intro pc E q hq
  unfold hdL_leave at hq
  split at hq
  · rename_i h
    obtain ⟨rfl, rfl⟩ := h
    cases hq
    exact ⟨[], ⟨0, 9, 12, 26⟩, [], "java/util/NoSuchElementException", rfl, fun z hz => absurd hz List.not_mem_nil, by decide, by decide, by decide +kernel, by decide +kernel, rfl, by decide, Or.inr ⟨3, rfl, (cdOk_at kL_leave_ok (show cdAt kL_leave 12 = some _ from rfl)).1, rfl⟩⟩
  · cases hq
def tL_leave (b : Bool) : Tm := pmTw (gL_leave b) hdL_leave 4
theorem moL_leave (b : Bool) : Tmono (tL_leave b) := pmTw_mono (gmL_leave b) 4
abbrev rmL_leave : Room := ({ frames := 8, cells := 1, slots := 6, locals := 192 } : Room)
theorem csL_leave (l : Launch) (D : va_G) (hl : l.stackTraces = false) (b : Bool) {p : Program} {e : Env} {s : State} {m : MethodId} {args : Array Value} {below : List Frame} {meth : Method} {c : Code} (C : CallFix p m c cL_leave 4 s args TG RL) : CallSnd p l e rmL_leave s m args below meth c D 4 4 (tX8_leave b) 2 1 6 (some 8) :=
  cs_V (ci := 8) (n := 1) (idx := 68) C (meX8_leave l D hl b) (cdOk_at kL_leave_ok (show cdAt kL_leave 4 = some _ from rfl)).1 wX8_leave_c wL_m68 wX8_leave_i wX8_leave_s wX8_z (by decide +kernel) rfl ⟨Nat.le_of_ble_eq_true rfl, Nat.le_of_ble_eq_true rfl⟩
theorem gcL_leave (l : Launch) (D : va_G) (hl : l.stackTraces = false) (b : Bool) : gCalls l D RL cL_leave 4 rmL_leave (gL_leave b) := gc_lk rfl (List.forall_mem_cons.mpr ⟨⟨fun p e s m args below meth c C => csL_leave l D hl b C, ⟨sel8_ok b, sel8_bk b⟩⟩, fun _ h => absurd h List.not_mem_nil⟩)
theorem goL_leave (b : Bool) : gOk RL "leave" cL_leave (some .int) (gL_leave b) := gOk_of kL_leave_ok (fun _ _ _ h => by cases h) (by cases b <;> decide +kernel) (Or.inl (by cases b <;> decide +kernel)) (fun pc E h => by cases h) (fun _ _ _ h => by cases h) (Or.inl (by cases b <;> decide +kernel))
theorem meL_leave (l : Launch) (D : va_G) (hl : l.stackTraces = false) (b : Bool) : pmMetH l D yL_leave cL_leave 4 (some .int) [(0, 9, 12, 26)] rmL_leave [] (tL_leave b) := pm_soundH (by decide +kernel) (goL_leave b) (gcL_leave l D hl b) rfl rfl ⟨Nat.le_of_ble_eq_true rfl, Nat.le_of_ble_eq_true rfl⟩ hsL_leave (fun _ => rfl) (fun _ => rfl) (na_of (show kL_leave.all naB = true by decide +kernel))
theorem tL_leave_i {b : Bool} {Q : Qt} {X : HX} {Y : HY} {p1 : Int32} (h : tX8_leave b [.ref 0, .int p1] (LX8 b) (sb (sel8 b) X) (sb (sel8 b) Y) (cWi (LX8 b) (sel8 b) (Lw b).length X Y (fun x X2 Y2 => Q (.inl (some (.int (nI 0)))) (Lw b) X2 (up2 Y2 79 0 x.toInt64)) (fun E X2 Y2 => (E = "java/util/NoSuchElementException" ∧ Q (.inl (some (.int (nI 1)))) (Lw b) X2 Y2)))) : tL_leave b [.ref 0, .int p1, .ref 79] (Lw b) X Y Q :=
  w_ent 4 (lv := [some (.ref 0), some (.int p1), some (.ref 79), none]) rfl rfl (w_load (gmL_leave b) 1 rfl rfl rfl rfl (w_pure (gmL_leave b) 2 _ rfl rfl rfl rfl (w_load (gmL_leave b) 3 rfl rfl rfl rfl (w_load (gmL_leave b) 4 rfl rfl rfl rfl (w_call1 (gmL_leave b) 7 _ _ rfl (by cases b <;> rfl) rfl rfl rfl rfl h (fun x X2 Y2 hx => w_pure (gmL_leave b) 8 _ rfl rfl rfl rfl (w_last (gmL_leave b) 9 rfl rfl (by cases b <;> rfl) rfl v1_0 (w_goto (gmL_leave b) 15 rfl rfl (w_pure (gmL_leave b) 16 _ rfl rfl rfl rfl (w_iret (gmL_leave b) rfl rfl rfl rfl hx))))) (fun E X2 Y2 hy => by obtain ⟨rfl, hz⟩ := hy; exact ⟨_, if_pos ⟨rfl, rfl⟩, w_pure (gmL_leave b) 14 _ rfl rfl rfl rfl (w_iret (gmL_leave b) rfl rfl rfl rfl hz)⟩))))))
def caL_twice (b : Bool) : List (Nat × Ce) := [(4, tX8_twice b, 2, 1, (1, 6), some ((Lw b), (sel8 b), (LX8 b), (LX8 b), (Lw b)), some 8)]
def gL_twice (b : Bool) : Gm := (kL_twice, lk ([] : List (Nat × Nat × Nat)), lk (caL_twice b), noT, noN, noV, (1, 6, false))
theorem gmL_twice (b : Bool) : Gmono (gL_twice b) := gm_lk rfl (List.forall_mem_cons.mpr ⟨moX8_twice b, fun _ h => absurd h List.not_mem_nil⟩)
def hdL_twice : Hdl := fun pc E => if pc = 4 ∧ E = "java/lang/IndexOutOfBoundsException" then some (19, 1, 3) else none
theorem hsL_twice : hdSt RL cL_twice 4 [(0, 16, 19, 24)] [] hdL_twice := by
  intro pc E q hq
  unfold hdL_twice at hq
  split at hq
  · rename_i h
    obtain ⟨rfl, rfl⟩ := h
    cases hq
    exact ⟨[], ⟨0, 16, 19, 24⟩, [], "java/lang/IndexOutOfBoundsException", rfl, fun z hz => absurd hz List.not_mem_nil, by decide, by decide, by decide +kernel, by decide +kernel, rfl, by decide, Or.inr ⟨3, rfl, (cdOk_at kL_twice_ok (show cdAt kL_twice 19 = some _ from rfl)).1, rfl⟩⟩
  · cases hq
def tL_twice (b : Bool) : Tm := pmTw (gL_twice b) hdL_twice 4
theorem moL_twice (b : Bool) : Tmono (tL_twice b) := pmTw_mono (gmL_twice b) 4
abbrev rmL_twice : Room := ({ frames := 21, cells := 1, slots := 6, locals := 598 } : Room)
theorem csL_twice (l : Launch) (D : va_G) (hl : l.stackTraces = false) (b : Bool) {p : Program} {e : Env} {s : State} {m : MethodId} {args : Array Value} {below : List Frame} {meth : Method} {c : Code} (C : CallFix p m c cL_twice 4 s args TG RL) : CallSnd p l e rmL_twice s m args below meth c D 4 4 (tX8_twice b) 2 1 6 (some 8) :=
  cs_V (ci := 8) (n := 1) (idx := 71) C (meX8_twice l D hl b) (cdOk_at kL_twice_ok (show cdAt kL_twice 4 = some _ from rfl)).1 wX8_twice_c wL_m71 wX8_twice_i wX8_twice_s wX8_z (by decide +kernel) rfl ⟨Nat.le_of_ble_eq_true rfl, Nat.le_of_ble_eq_true rfl⟩
theorem gcL_twice (l : Launch) (D : va_G) (hl : l.stackTraces = false) (b : Bool) : gCalls l D RL cL_twice 4 rmL_twice (gL_twice b) := gc_lk rfl (List.forall_mem_cons.mpr ⟨⟨fun p e s m args below meth c C => csL_twice l D hl b C, ⟨sel8_ok b, sel8_bk b⟩⟩, fun _ h => absurd h List.not_mem_nil⟩)
theorem goL_twice (b : Bool) : gOk RL "twice" cL_twice (some .int) (gL_twice b) := gOk_of kL_twice_ok (fun _ _ _ h => by cases h) (by cases b <;> decide +kernel) (Or.inl (by cases b <;> decide +kernel)) (fun pc E h => by cases h) (fun _ _ _ h => by cases h) (Or.inl (by cases b <;> decide +kernel))
theorem meL_twice (l : Launch) (D : va_G) (hl : l.stackTraces = false) (b : Bool) : pmMetH l D yL_twice cL_twice 4 (some .int) [(0, 16, 19, 24)] rmL_twice [] (tL_twice b) := pm_soundH (by decide +kernel) (goL_twice b) (gcL_twice l D hl b) rfl rfl ⟨Nat.le_of_ble_eq_true rfl, Nat.le_of_ble_eq_true rfl⟩ hsL_twice (fun _ => rfl) (fun _ => rfl) (na_of (show kL_twice.all naB = true by decide +kernel))
theorem tL_twice_i {b : Bool} {Q : Qt} {X : HX} {Y : HY} {p1 : Int32} (h : tX8_twice b [.ref 0, .int p1] (LX8 b) (sb (sel8 b) X) (sb (sel8 b) Y) (cWi (LX8 b) (sel8 b) (Lw b).length X Y (fun x X2 Y2 => (x = 0 → Q (.inl (some (.int (nI 0)))) (Lw b) X2 (up2 Y2 79 0 (lN 0))) ∧ (¬ x = 0 → Q (.inl (some (.int (nI 0)))) (Lw b) X2 (up2 Y2 79 0 (lN 1)))) (fun E X2 Y2 => (E = "java/lang/IndexOutOfBoundsException" ∧ Q (.inl (some (.int (nI 1)))) (Lw b) X2 Y2)))) : tL_twice b [.ref 0, .int p1, .ref 79] (Lw b) X Y Q :=
  w_ent 4 (lv := [some (.ref 0), some (.int p1), some (.ref 79), none]) rfl rfl (w_load (gmL_twice b) 1 rfl rfl rfl rfl (w_pure (gmL_twice b) 2 _ rfl rfl rfl rfl (w_load (gmL_twice b) 3 rfl rfl rfl rfl (w_load (gmL_twice b) 4 rfl rfl rfl rfl (w_call1 (gmL_twice b) 7 _ _ rfl (by cases b <;> rfl) rfl rfl rfl rfl h (fun x X2 Y2 hx => w_if (gmL_twice b) 14 10 rfl rfl rfl (fun e => w_pure (gmL_twice b) 15 _ rfl rfl rfl rfl (w_last (gmL_twice b) 16 rfl rfl (by cases b <;> rfl) rfl v1_0 (w_goto (gmL_twice b) 22 rfl rfl (w_pure (gmL_twice b) 23 _ rfl rfl rfl rfl (w_iret (gmL_twice b) rfl rfl rfl rfl (hx.1 e)))))) (fun e => w_pure (gmL_twice b) 11 _ rfl rfl rfl rfl (w_goto (gmL_twice b) 15 rfl rfl (w_last (gmL_twice b) 16 rfl rfl (by cases b <;> rfl) rfl v1_0 (w_goto (gmL_twice b) 22 rfl rfl (w_pure (gmL_twice b) 23 _ rfl rfl rfl rfl (w_iret (gmL_twice b) rfl rfl rfl rfl (hx.2 e)))))))) (fun E X2 Y2 hy => by obtain ⟨rfl, hz⟩ := hy; exact ⟨_, if_pos ⟨rfl, rfl⟩, w_pure (gmL_twice b) 21 _ rfl rfl rfl rfl (w_iret (gmL_twice b) rfl rfl rfl rfl hz)⟩))))))
def caL_room (b : Bool) : List (Nat × Ce) := [(4, tX8_room b, 2, 1, (2, 12), some ((Lw b), (sel8 b), (LX8 b), (LX8 b), (Lw b)), some 8)]
def gL_room (b : Bool) : Gm := (kL_room, lk ([] : List (Nat × Nat × Nat)), lk (caL_room b), noT, noN, noV, (2, 12, false))
theorem gmL_room (b : Bool) : Gmono (gL_room b) := gm_lk rfl (List.forall_mem_cons.mpr ⟨moX8_room b, fun _ h => absurd h List.not_mem_nil⟩)
def hdL_room : Hdl := fun pc E => if pc = 4 ∧ E = "java/lang/IndexOutOfBoundsException" then some (12, 1, 3) else if pc = 4 ∧ E = "java/lang/IllegalStateException" then some (15, 1, 3) else none
theorem hsL_room : hdSt RL cL_room 4 [(0, 9, 12, 24), (0, 9, 15, 45)] [("java/lang/IllegalStateException", "java/lang/IndexOutOfBoundsException")] hdL_room := by
  intro pc E q hq
  unfold hdL_room at hq
  split at hq
  · rename_i h
    obtain ⟨rfl, rfl⟩ := h
    cases hq
    exact ⟨[], ⟨0, 9, 12, 24⟩, [⟨0, 9, 15, 45⟩], "java/lang/IndexOutOfBoundsException", rfl, fun z hz => absurd hz List.not_mem_nil, by decide, by decide, by decide +kernel, by decide +kernel, rfl, by decide, Or.inr ⟨3, rfl, (cdOk_at kL_room_ok (show cdAt kL_room 12 = some _ from rfl)).1, rfl⟩⟩
  · skip
    split at hq
    · rename_i h
      obtain ⟨rfl, rfl⟩ := h
      cases hq
      exact ⟨[⟨0, 9, 12, 24⟩], ⟨0, 9, 15, 45⟩, [], "java/lang/IllegalStateException", rfl, fun z hz => by rw [List.mem_singleton.mp hz]; exact Or.inr ⟨by decide, "java/lang/IndexOutOfBoundsException", by decide +kernel, by simp⟩, by decide, by decide, by decide +kernel, by decide +kernel, rfl, by decide, Or.inr ⟨3, rfl, (cdOk_at kL_room_ok (show cdAt kL_room 15 = some _ from rfl)).1, rfl⟩⟩
    · cases hq
def tL_room (b : Bool) : Tm := pmTw (gL_room b) hdL_room 4
theorem moL_room (b : Bool) : Tmono (tL_room b) := pmTw_mono (gmL_room b) 4
abbrev rmL_room : Room := ({ frames := 8, cells := 2, slots := 12, locals := 168 } : Room)
theorem csL_room (l : Launch) (D : va_G) (hl : l.stackTraces = false) (b : Bool) {p : Program} {e : Env} {s : State} {m : MethodId} {args : Array Value} {below : List Frame} {meth : Method} {c : Code} (C : CallFix p m c cL_room 4 s args TG RL) : CallSnd p l e rmL_room s m args below meth c D 4 4 (tX8_room b) 2 2 12 (some 8) :=
  cs_V (ci := 8) (n := 1) (idx := 75) C (meX8_room l D hl b) (cdOk_at kL_room_ok (show cdAt kL_room 4 = some _ from rfl)).1 wX8_room_c wL_m75 wX8_room_i wX8_room_s wX8_z (by decide +kernel) rfl ⟨Nat.le_of_ble_eq_true rfl, Nat.le_of_ble_eq_true rfl⟩
theorem gcL_room (l : Launch) (D : va_G) (hl : l.stackTraces = false) (b : Bool) : gCalls l D RL cL_room 4 rmL_room (gL_room b) := gc_lk rfl (List.forall_mem_cons.mpr ⟨⟨fun p e s m args below meth c C => csL_room l D hl b C, ⟨sel8_ok b, sel8_bk b⟩⟩, fun _ h => absurd h List.not_mem_nil⟩)
theorem goL_room (b : Bool) : gOk RL "room" cL_room (some .int) (gL_room b) := gOk_of kL_room_ok (fun _ _ _ h => by cases h) (by cases b <;> decide +kernel) (Or.inl (by cases b <;> decide +kernel)) (fun pc E h => by cases h) (fun _ _ _ h => by cases h) (Or.inl (by cases b <;> decide +kernel))
theorem meL_room (l : Launch) (D : va_G) (hl : l.stackTraces = false) (b : Bool) : pmMetH l D yL_room cL_room 4 (some .int) [(0, 9, 12, 24), (0, 9, 15, 45)] rmL_room [("java/lang/IllegalStateException", "java/lang/IndexOutOfBoundsException")] (tL_room b) := pm_soundH (by decide +kernel) (goL_room b) (gcL_room l D hl b) rfl rfl ⟨Nat.le_of_ble_eq_true rfl, Nat.le_of_ble_eq_true rfl⟩ hsL_room (fun _ => rfl) (fun _ => rfl) (na_of (show kL_room.all naB = true by decide +kernel))
theorem tL_room_i {b : Bool} {Q : Qt} {X : HX} {Y : HY} {p1 : Int32} (h : tX8_room b [.ref 0, .int p1] (LX8 b) (sb (sel8 b) X) (sb (sel8 b) Y) (cWi (LX8 b) (sel8 b) (Lw b).length X Y (fun x X2 Y2 => Q (.inl (some (.int (nI 0)))) (Lw b) X2 (up2 Y2 79 0 x.toInt64)) (fun E X2 Y2 => (E = "java/lang/IndexOutOfBoundsException" ∧ Q (.inl (some (.int (nI 1)))) (Lw b) X2 Y2) ∨ (E = "java/lang/IllegalStateException" ∧ Q (.inl (some (.int (nI 2)))) (Lw b) X2 Y2)))) : tL_room b [.ref 0, .int p1, .ref 79] (Lw b) X Y Q :=
  w_ent 4 (lv := [some (.ref 0), some (.int p1), some (.ref 79), none]) rfl rfl (w_load (gmL_room b) 1 rfl rfl rfl rfl (w_pure (gmL_room b) 2 _ rfl rfl rfl rfl (w_load (gmL_room b) 3 rfl rfl rfl rfl (w_load (gmL_room b) 4 rfl rfl rfl rfl (w_call1 (gmL_room b) 7 _ _ rfl (by cases b <;> rfl) rfl rfl rfl rfl h (fun x X2 Y2 hx => w_pure (gmL_room b) 8 _ rfl rfl rfl rfl (w_last (gmL_room b) 9 rfl rfl (by cases b <;> rfl) rfl v1_0 (w_goto (gmL_room b) 18 rfl rfl (w_pure (gmL_room b) 19 _ rfl rfl rfl rfl (w_iret (gmL_room b) rfl rfl rfl rfl hx))))) (fun E X2 Y2 hx => hx.elim (fun hy => by obtain ⟨rfl, hz⟩ := hy; exact ⟨_, if_pos ⟨rfl, rfl⟩, w_pure (gmL_room b) 14 _ rfl rfl rfl rfl (w_iret (gmL_room b) rfl rfl rfl rfl hz)⟩) (fun hy => by obtain ⟨rfl, hz⟩ := hy; exact ⟨_, (if_neg (by decide)).trans (if_pos ⟨rfl, rfl⟩), w_pure (gmL_room b) 17 _ rfl rfl rfl rfl (w_iret (gmL_room b) rfl rfl rfl rfl hz)⟩)))))))
def caL_rooms (b : Bool) : List (Nat × Ce) := [(3, tX8_rooms b, 1, 1, (1, 6), some ((Lw b), (sel8 b), (LX8 b), (LX8 b), (Lw b)), some 8)]
def gL_rooms (b : Bool) : Gm := (kL_rooms, lk ([] : List (Nat × Nat × Nat)), lk (caL_rooms b), noT, noN, noV, (1, 6, false))
theorem gmL_rooms (b : Bool) : Gmono (gL_rooms b) := gm_lk rfl (List.forall_mem_cons.mpr ⟨moX8_rooms b, fun _ h => absurd h List.not_mem_nil⟩)
def hdL_rooms : Hdl := fun pc E => if pc = 3 ∧ E = "java/lang/IllegalStateException" then some (11, 1, 2) else none
theorem hsL_rooms : hdSt RL cL_rooms 3 [(0, 8, 11, 45)] [] hdL_rooms := by
  intro pc E q hq
  unfold hdL_rooms at hq
  split at hq
  · rename_i h
    obtain ⟨rfl, rfl⟩ := h
    cases hq
    exact ⟨[], ⟨0, 8, 11, 45⟩, [], "java/lang/IllegalStateException", rfl, fun z hz => absurd hz List.not_mem_nil, by decide, by decide, by decide +kernel, by decide +kernel, rfl, by decide, Or.inr ⟨2, rfl, (cdOk_at kL_rooms_ok (show cdAt kL_rooms 11 = some _ from rfl)).1, rfl⟩⟩
  · cases hq
def tL_rooms (b : Bool) : Tm := pmTw (gL_rooms b) hdL_rooms 3
theorem moL_rooms (b : Bool) : Tmono (tL_rooms b) := pmTw_mono (gmL_rooms b) 3
abbrev rmL_rooms : Room := ({ frames := 8, cells := 1, slots := 6, locals := 169 } : Room)
theorem csL_rooms (l : Launch) (D : va_G) (hl : l.stackTraces = false) (b : Bool) {p : Program} {e : Env} {s : State} {m : MethodId} {args : Array Value} {below : List Frame} {meth : Method} {c : Code} (C : CallFix p m c cL_rooms 3 s args TG RL) : CallSnd p l e rmL_rooms s m args below meth c D 3 3 (tX8_rooms b) 1 1 6 (some 8) :=
  cs_V (ci := 8) (n := 0) (idx := 78) C (meX8_rooms l D hl b) (cdOk_at kL_rooms_ok (show cdAt kL_rooms 3 = some _ from rfl)).1 wX8_rooms_c wL_m78 wX8_rooms_i wX8_rooms_s wX8_z (by decide +kernel) rfl ⟨Nat.le_of_ble_eq_true rfl, Nat.le_of_ble_eq_true rfl⟩
theorem gcL_rooms (l : Launch) (D : va_G) (hl : l.stackTraces = false) (b : Bool) : gCalls l D RL cL_rooms 3 rmL_rooms (gL_rooms b) := gc_lk rfl (List.forall_mem_cons.mpr ⟨⟨fun p e s m args below meth c C => csL_rooms l D hl b C, ⟨sel8_ok b, sel8_bk b⟩⟩, fun _ h => absurd h List.not_mem_nil⟩)
theorem goL_rooms (b : Bool) : gOk RL "rooms" cL_rooms (some .int) (gL_rooms b) := gOk_of kL_rooms_ok (fun _ _ _ h => by cases h) (by cases b <;> decide +kernel) (Or.inl (by cases b <;> decide +kernel)) (fun pc E h => by cases h) (fun _ _ _ h => by cases h) (Or.inl (by cases b <;> decide +kernel))
theorem meL_rooms (l : Launch) (D : va_G) (hl : l.stackTraces = false) (b : Bool) : pmMetH l D yL_rooms cL_rooms 3 (some .int) [(0, 8, 11, 45)] rmL_rooms [] (tL_rooms b) := pm_soundH (by decide +kernel) (goL_rooms b) (gcL_rooms l D hl b) rfl rfl ⟨Nat.le_of_ble_eq_true rfl, Nat.le_of_ble_eq_true rfl⟩ hsL_rooms (fun _ => rfl) (fun _ => rfl) (na_of (show kL_rooms.all naB = true by decide +kernel))
theorem tL_rooms_i {b : Bool} {Q : Qt} {X : HX} {Y : HY} (h : tX8_rooms b [.ref 0] (LX8 b) (sb (sel8 b) X) (sb (sel8 b) Y) (cWi (LX8 b) (sel8 b) (Lw b).length X Y (fun x X2 Y2 => Q (.inl (some (.int (nI 0)))) (Lw b) X2 (up2 Y2 79 0 x.toInt64)) (fun E X2 Y2 => (E = "java/lang/IllegalStateException" ∧ Q (.inl (some (.int (nI 1)))) (Lw b) X2 Y2)))) : tL_rooms b [.ref 0, .ref 79] (Lw b) X Y Q :=
  w_ent 3 (lv := [some (.ref 0), some (.ref 79), none]) rfl rfl (w_load (gmL_rooms b) 1 rfl rfl rfl rfl (w_pure (gmL_rooms b) 2 _ rfl rfl rfl rfl (w_load (gmL_rooms b) 3 rfl rfl rfl rfl (w_call1 (gmL_rooms b) 6 _ _ rfl (by cases b <;> rfl) rfl rfl rfl rfl h (fun x X2 Y2 hx => w_pure (gmL_rooms b) 7 _ rfl rfl rfl rfl (w_last (gmL_rooms b) 8 rfl rfl (by cases b <;> rfl) rfl v1_0 (w_goto (gmL_rooms b) 14 rfl rfl (w_pure (gmL_rooms b) 15 _ rfl rfl rfl rfl (w_iret (gmL_rooms b) rfl rfl rfl rfl hx))))) (fun E X2 Y2 hy => by obtain ⟨rfl, hz⟩ := hy; exact ⟨_, if_pos ⟨rfl, rfl⟩, w_pure (gmL_rooms b) 13 _ rfl rfl rfl rfl (w_iret (gmL_rooms b) rfl rfl rfl rfl hz)⟩)))))
def caL_span (b : Bool) : List (Nat × Ce) := [(5, tX8_span b, 3, 1, (1, 6), some ((Lw b), (sel8 b), (LX8 b), (LX8 b), (Lw b)), some 8)]
def gL_span (b : Bool) : Gm := (kL_span, lk ([] : List (Nat × Nat × Nat)), lk (caL_span b), noT, noN, noV, (1, 6, false))
theorem gmL_span (b : Bool) : Gmono (gL_span b) := gm_lk rfl (List.forall_mem_cons.mpr ⟨moX8_span b, fun _ h => absurd h List.not_mem_nil⟩)
def hdL_span : Hdl := fun pc E => if pc = 5 ∧ E = "java/lang/IndexOutOfBoundsException" then some (13, 2, 4) else none
theorem hsL_span : hdSt RL cL_span 5 [(0, 10, 13, 24)] [] hdL_span := by
  intro pc E q hq
  unfold hdL_span at hq
  split at hq
  · rename_i h
    obtain ⟨rfl, rfl⟩ := h
    cases hq
    exact ⟨[], ⟨0, 10, 13, 24⟩, [], "java/lang/IndexOutOfBoundsException", rfl, fun z hz => absurd hz List.not_mem_nil, by decide, by decide, by decide +kernel, by decide +kernel, rfl, by decide, Or.inl ⟨(cdOk_at kL_span_ok (show cdAt kL_span 13 = some _ from rfl)).1, rfl⟩⟩
  · cases hq
def tL_span (b : Bool) : Tm := pmTw (gL_span b) hdL_span 5
theorem moL_span (b : Bool) : Tmono (tL_span b) := pmTw_mono (gmL_span b) 5
abbrev rmL_span : Room := ({ frames := 8, cells := 1, slots := 6, locals := 172 } : Room)
theorem csL_span (l : Launch) (D : va_G) (hl : l.stackTraces = false) (b : Bool) {p : Program} {e : Env} {s : State} {m : MethodId} {args : Array Value} {below : List Frame} {meth : Method} {c : Code} (C : CallFix p m c cL_span 5 s args TG RL) : CallSnd p l e rmL_span s m args below meth c D 5 5 (tX8_span b) 3 1 6 (some 8) :=
  cs_V (ci := 8) (n := 2) (idx := 81) C (meX8_span l D hl b) (cdOk_at kL_span_ok (show cdAt kL_span 5 = some _ from rfl)).1 wX8_span_c wL_m81 wX8_span_i wX8_span_s wX8_z (by decide +kernel) rfl ⟨Nat.le_of_ble_eq_true rfl, Nat.le_of_ble_eq_true rfl⟩
theorem gcL_span (l : Launch) (D : va_G) (hl : l.stackTraces = false) (b : Bool) : gCalls l D RL cL_span 5 rmL_span (gL_span b) := gc_lk rfl (List.forall_mem_cons.mpr ⟨⟨fun p e s m args below meth c C => csL_span l D hl b C, ⟨sel8_ok b, sel8_bk b⟩⟩, fun _ h => absurd h List.not_mem_nil⟩)
theorem goL_span (b : Bool) : gOk RL "span" cL_span (some .int) (gL_span b) := gOk_of kL_span_ok (fun _ _ _ h => by cases h) (by cases b <;> decide +kernel) (Or.inl (by cases b <;> decide +kernel)) (fun pc E h => by cases h) (fun _ _ _ h => by cases h) (Or.inl (by cases b <;> decide +kernel))
theorem meL_span (l : Launch) (D : va_G) (hl : l.stackTraces = false) (b : Bool) : pmMetH l D yL_span cL_span 5 (some .int) [(0, 10, 13, 24)] rmL_span [] (tL_span b) := pm_soundH (by decide +kernel) (goL_span b) (gcL_span l D hl b) rfl rfl ⟨Nat.le_of_ble_eq_true rfl, Nat.le_of_ble_eq_true rfl⟩ hsL_span (fun _ => rfl) (fun _ => rfl) (na_of (show kL_span.all naB = true by decide +kernel))
theorem tL_span_i {b : Bool} {Q : Qt} {X : HX} {Y : HY} {p1 p2 : Int32} (h : tX8_span b [.ref 0, .int p1, .int p2] (LX8 b) (sb (sel8 b) X) (sb (sel8 b) Y) (cWi (LX8 b) (sel8 b) (Lw b).length X Y (fun x X2 Y2 => Q (.inl (some (.int (nI 0)))) (Lw b) X2 (up2 Y2 79 0 x.toInt64)) (fun E X2 Y2 => (E = "java/lang/IndexOutOfBoundsException" ∧ Q (.inl (some (.int (nI 1)))) (Lw b) X2 Y2)))) : tL_span b [.ref 0, .int p1, .int p2, .ref 79] (Lw b) X Y Q :=
  w_ent 5 (lv := [some (.ref 0), some (.int p1), some (.int p2), some (.ref 79), none]) rfl rfl (w_load (gmL_span b) 1 rfl rfl rfl rfl (w_pure (gmL_span b) 2 _ rfl rfl rfl rfl (w_load (gmL_span b) 3 rfl rfl rfl rfl (w_load (gmL_span b) 4 rfl rfl rfl rfl (w_load (gmL_span b) 5 rfl rfl rfl rfl (w_call1 (gmL_span b) 8 _ _ rfl (by cases b <;> rfl) rfl rfl rfl rfl h (fun x X2 Y2 hx => w_pure (gmL_span b) 9 _ rfl rfl rfl rfl (w_last (gmL_span b) 10 rfl rfl (by cases b <;> rfl) rfl v1_0 (w_goto (gmL_span b) 17 rfl rfl (w_pure (gmL_span b) 18 _ rfl rfl rfl rfl (w_iret (gmL_span b) rfl rfl rfl rfl hx))))) (fun E X2 Y2 hy => by obtain ⟨rfl, hz⟩ := hy; exact ⟨_, if_pos ⟨rfl, rfl⟩, w_pure (gmL_span b) 16 _ rfl rfl rfl rfl (w_iret (gmL_span b) rfl rfl rfl rfl hz)⟩)))))))
def caL_must (b : Bool) : List (Nat × Ce) := [(5, tX8_must b, 3, 1, (2, 12), some ((Lw b), (sel8 b), (LX8 b), (LX8 b), (Lw b)), some 8)]
def gL_must (b : Bool) : Gm := (kL_must, lk ([] : List (Nat × Nat × Nat)), lk (caL_must b), noT, noN, noV, (2, 12, false))
theorem gmL_must (b : Bool) : Gmono (gL_must b) := gm_lk rfl (List.forall_mem_cons.mpr ⟨moX8_must b, fun _ h => absurd h List.not_mem_nil⟩)
def hdL_must : Hdl := fun pc E => if pc = 5 ∧ E = "java/lang/IndexOutOfBoundsException" then some (13, 2, 4) else none
theorem hsL_must : hdSt RL cL_must 5 [(0, 10, 13, 24)] [] hdL_must := by
  intro pc E q hq
  unfold hdL_must at hq
  split at hq
  · rename_i h
    obtain ⟨rfl, rfl⟩ := h
    cases hq
    exact ⟨[], ⟨0, 10, 13, 24⟩, [], "java/lang/IndexOutOfBoundsException", rfl, fun z hz => absurd hz List.not_mem_nil, by decide, by decide, by decide +kernel, by decide +kernel, rfl, by decide, Or.inl ⟨(cdOk_at kL_must_ok (show cdAt kL_must 13 = some _ from rfl)).1, rfl⟩⟩
  · cases hq
def tL_must (b : Bool) : Tm := pmTw (gL_must b) hdL_must 5
theorem moL_must (b : Bool) : Tmono (tL_must b) := pmTw_mono (gmL_must b) 5
abbrev rmL_must : Room := ({ frames := 8, cells := 2, slots := 12, locals := 174 } : Room)
theorem csL_must (l : Launch) (D : va_G) (hl : l.stackTraces = false) (b : Bool) {p : Program} {e : Env} {s : State} {m : MethodId} {args : Array Value} {below : List Frame} {meth : Method} {c : Code} (C : CallFix p m c cL_must 5 s args TG RL) : CallSnd p l e rmL_must s m args below meth c D 5 5 (tX8_must b) 3 2 12 (some 8) :=
  cs_V (ci := 8) (n := 2) (idx := 84) C (meX8_must l D hl b) (cdOk_at kL_must_ok (show cdAt kL_must 5 = some _ from rfl)).1 wX8_must_c wL_m84 wX8_must_i wX8_must_s wX8_z (by decide +kernel) rfl ⟨Nat.le_of_ble_eq_true rfl, Nat.le_of_ble_eq_true rfl⟩
theorem gcL_must (l : Launch) (D : va_G) (hl : l.stackTraces = false) (b : Bool) : gCalls l D RL cL_must 5 rmL_must (gL_must b) := gc_lk rfl (List.forall_mem_cons.mpr ⟨⟨fun p e s m args below meth c C => csL_must l D hl b C, ⟨sel8_ok b, sel8_bk b⟩⟩, fun _ h => absurd h List.not_mem_nil⟩)
theorem goL_must (b : Bool) : gOk RL "must" cL_must (some .int) (gL_must b) := gOk_of kL_must_ok (fun _ _ _ h => by cases h) (by cases b <;> decide +kernel) (Or.inl (by cases b <;> decide +kernel)) (fun pc E h => by cases h) (fun _ _ _ h => by cases h) (Or.inl (by cases b <;> decide +kernel))
theorem meL_must (l : Launch) (D : va_G) (hl : l.stackTraces = false) (b : Bool) : pmMetH l D yL_must cL_must 5 (some .int) [(0, 10, 13, 24)] rmL_must [] (tL_must b) := pm_soundH (by decide +kernel) (goL_must b) (gcL_must l D hl b) rfl rfl ⟨Nat.le_of_ble_eq_true rfl, Nat.le_of_ble_eq_true rfl⟩ hsL_must (fun _ => rfl) (fun _ => rfl) (na_of (show kL_must.all naB = true by decide +kernel))
theorem tL_must_i {b : Bool} {Q : Qt} {X : HX} {Y : HY} {p1 p2 : Int32} (h : tX8_must b [.ref 0, .int p1, .int p2] (LX8 b) (sb (sel8 b) X) (sb (sel8 b) Y) (cWi (LX8 b) (sel8 b) (Lw b).length X Y (fun x X2 Y2 => Q (.inl (some (.int (nI 0)))) (Lw b) X2 (up2 Y2 79 0 x.toInt64)) (fun E X2 Y2 => (E = "java/lang/IndexOutOfBoundsException" ∧ Q (.inl (some (.int (nI 1)))) (Lw b) X2 Y2)))) : tL_must b [.ref 0, .int p1, .int p2, .ref 79] (Lw b) X Y Q :=
  w_ent 5 (lv := [some (.ref 0), some (.int p1), some (.int p2), some (.ref 79), none]) rfl rfl (w_load (gmL_must b) 1 rfl rfl rfl rfl (w_pure (gmL_must b) 2 _ rfl rfl rfl rfl (w_load (gmL_must b) 3 rfl rfl rfl rfl (w_load (gmL_must b) 4 rfl rfl rfl rfl (w_load (gmL_must b) 5 rfl rfl rfl rfl (w_call1 (gmL_must b) 8 _ _ rfl (by cases b <;> rfl) rfl rfl rfl rfl h (fun x X2 Y2 hx => w_pure (gmL_must b) 9 _ rfl rfl rfl rfl (w_last (gmL_must b) 10 rfl rfl (by cases b <;> rfl) rfl v1_0 (w_goto (gmL_must b) 17 rfl rfl (w_pure (gmL_must b) 18 _ rfl rfl rfl rfl (w_iret (gmL_must b) rfl rfl rfl rfl hx))))) (fun E X2 Y2 hy => by obtain ⟨rfl, hz⟩ := hy; exact ⟨_, if_pos ⟨rfl, rfl⟩, w_pure (gmL_must b) 16 _ rfl rfl rfl rfl (w_iret (gmL_must b) rfl rfl rfl rfl hz)⟩)))))))
def caL_list_T : List (Nat × Ce) := [(4, tX8_list_T, 2, 1, (1, 6), some ((Lw true), (sel8 true), (LX8 true), (LX8 true), (Lw true)), some 8)]
def gL_list_T : Gm := (kL_list, lk ([] : List (Nat × Nat × Nat)), lk (caL_list_T), noT, noN, noV, (1, 6, false))
theorem gmL_list_T : Gmono (gL_list_T) := gm_lk rfl (List.forall_mem_cons.mpr ⟨moX8_list_T, fun _ h => absurd h List.not_mem_nil⟩)
def hdL_list : Hdl := fun pc E => if pc = 4 ∧ E = "java/lang/IllegalArgumentException" then some (12, 1, 3) else none
theorem hsL_list : hdSt RL cL_list 4 [(0, 9, 12, 18)] [] hdL_list := by
  intro pc E q hq
  unfold hdL_list at hq
  split at hq
  · rename_i h
    obtain ⟨rfl, rfl⟩ := h
    cases hq
    exact ⟨[], ⟨0, 9, 12, 18⟩, [], "java/lang/IllegalArgumentException", rfl, fun z hz => absurd hz List.not_mem_nil, by decide, by decide, by decide +kernel, by decide +kernel, rfl, by decide, Or.inr ⟨3, rfl, (cdOk_at kL_list_ok (show cdAt kL_list 12 = some _ from rfl)).1, rfl⟩⟩
  · cases hq
def tL_list_T : Tm := pmTw (gL_list_T) hdL_list 4
theorem moL_list_T : Tmono (tL_list_T) := pmTw_mono (gmL_list_T) 4
abbrev rmL_list_T : Room := ({ frames := 7, cells := 1, slots := 6, locals := 152 } : Room)
theorem csL_list_T (l : Launch) (D : va_G) (hl : l.stackTraces = false) {p : Program} {e : Env} {s : State} {m : MethodId} {args : Array Value} {below : List Frame} {meth : Method} {c : Code} (C : CallFix p m c cL_list 4 s args TG RL) : CallSnd p l e rmL_list_T s m args below meth c D 4 4 (tX8_list_T) 2 1 6 (some 8) :=
  cs_V (ci := 8) (n := 1) (idx := 87) C (meX8_list_T l D hl) (cdOk_at kL_list_ok (show cdAt kL_list 4 = some _ from rfl)).1 wX8_list_c wL_m87 wX8_list_i wX8_list_s wX8_z (by decide +kernel) rfl ⟨Nat.le_of_ble_eq_true rfl, Nat.le_of_ble_eq_true rfl⟩
theorem gcL_list_T (l : Launch) (D : va_G) (hl : l.stackTraces = false) : gCalls l D RL cL_list 4 rmL_list_T (gL_list_T) := gc_lk rfl (List.forall_mem_cons.mpr ⟨⟨fun p e s m args below meth c C => csL_list_T l D hl C, ⟨sel8_ok true, sel8_bk true⟩⟩, fun _ h => absurd h List.not_mem_nil⟩)
theorem goL_list_T : gOk RL "list" cL_list (some .int) (gL_list_T) := gOk_of kL_list_ok (fun _ _ _ h => by cases h) (by decide +kernel) (Or.inl (by decide +kernel)) (fun pc E h => by cases h) (fun _ _ _ h => by cases h) (Or.inl (by decide +kernel))
theorem meL_list_T (l : Launch) (D : va_G) (hl : l.stackTraces = false) : pmMetH l D yL_list cL_list 4 (some .int) [(0, 9, 12, 18)] rmL_list_T [] (tL_list_T) := pm_soundH (by decide +kernel) (goL_list_T) (gcL_list_T l D hl) rfl rfl ⟨Nat.le_of_ble_eq_true rfl, Nat.le_of_ble_eq_true rfl⟩ hsL_list (fun _ => rfl) (fun _ => rfl) (na_of (show kL_list.all naB = true by decide +kernel))
theorem tL_list_T_i {Q : Qt} {X : HX} {Y : HY} {p1 : Int32} (h : tX8_list_T [.ref 0, .int p1] (LX8 true) (sb (sel8 true) X) (sb (sel8 true) Y) (cWi (LX8 true) (sel8 true) (Lw true).length X Y (fun x X2 Y2 => Q (.inl (some (.int (nI 0)))) (Lw true) X2 (up2 Y2 79 0 x.toInt64)) (fun E X2 Y2 => (E = "java/lang/IllegalArgumentException" ∧ Q (.inl (some (.int (nI 1)))) (Lw true) X2 Y2)))) : tL_list_T [.ref 0, .int p1, .ref 79] (Lw true) X Y Q :=
  w_ent 4 (lv := [some (.ref 0), some (.int p1), some (.ref 79), none]) rfl rfl (w_load (gmL_list_T) 1 rfl rfl rfl rfl (w_pure (gmL_list_T) 2 _ rfl rfl rfl rfl (w_load (gmL_list_T) 3 rfl rfl rfl rfl (w_load (gmL_list_T) 4 rfl rfl rfl rfl (w_call1 (gmL_list_T) 7 _ _ rfl rfl rfl rfl rfl rfl h (fun x X2 Y2 hx => w_pure (gmL_list_T) 8 _ rfl rfl rfl rfl (w_last (gmL_list_T) 9 rfl rfl rfl rfl v1_0 (w_goto (gmL_list_T) 15 rfl rfl (w_pure (gmL_list_T) 16 _ rfl rfl rfl rfl (w_iret (gmL_list_T) rfl rfl rfl rfl hx))))) (fun E X2 Y2 hy => by obtain ⟨rfl, hz⟩ := hy; exact ⟨_, if_pos ⟨rfl, rfl⟩, w_pure (gmL_list_T) 14 _ rfl rfl rfl rfl (w_iret (gmL_list_T) rfl rfl rfl rfl hz)⟩))))))
def caL_list_F : List (Nat × Ce) := [(4, tX8_list_F, 2, 1, (5, 3731), some ((Lw false), (sel8 false), (LX8 false), (LX8 true), (Lw true)), some 8)]
def gL_list_F : Gm := (kL_list, lk ([] : List (Nat × Nat × Nat)), lk (caL_list_F), noT, noN, noV, (5, 3731, false))
theorem gmL_list_F : Gmono (gL_list_F) := gm_lk rfl (List.forall_mem_cons.mpr ⟨moX8_list_F, fun _ h => absurd h List.not_mem_nil⟩)
def tL_list_F : Tm := pmTw (gL_list_F) hdL_list 4
theorem moL_list_F : Tmono (tL_list_F) := pmTw_mono (gmL_list_F) 4
abbrev rmL_list_F : Room := ({ frames := 8, cells := 5, slots := 3731, locals := 152 } : Room)
theorem csL_list_F (l : Launch) (D : va_G) (hl : l.stackTraces = false) {p : Program} {e : Env} {s : State} {m : MethodId} {args : Array Value} {below : List Frame} {meth : Method} {c : Code} (C : CallFix p m c cL_list 4 s args TG RL) : CallSnd p l e rmL_list_F s m args below meth c D 4 4 (tX8_list_F) 2 5 3731 (some 8) :=
  cs_V (ci := 8) (n := 1) (idx := 87) C (meX8_list_F l D hl) (cdOk_at kL_list_ok (show cdAt kL_list 4 = some _ from rfl)).1 wX8_list_c wL_m87 wX8_list_i wX8_list_s wX8_z (by decide +kernel) rfl ⟨Nat.le_of_ble_eq_true rfl, Nat.le_of_ble_eq_true rfl⟩
theorem gcL_list_F (l : Launch) (D : va_G) (hl : l.stackTraces = false) : gCalls l D RL cL_list 4 rmL_list_F (gL_list_F) := gc_lk rfl (List.forall_mem_cons.mpr ⟨⟨fun p e s m args below meth c C => csL_list_F l D hl C, ⟨sel8_ok false, sel8_gr⟩⟩, fun _ h => absurd h List.not_mem_nil⟩)
theorem goL_list_F : gOk RL "list" cL_list (some .int) (gL_list_F) := gOk_of kL_list_ok (fun _ _ _ h => by cases h) (by decide +kernel) (Or.inl (by decide +kernel)) (fun pc E h => by cases h) (fun _ _ _ h => by cases h) (Or.inl (by decide +kernel))
theorem meL_list_F (l : Launch) (D : va_G) (hl : l.stackTraces = false) : pmMetH l D yL_list cL_list 4 (some .int) [(0, 9, 12, 18)] rmL_list_F [] (tL_list_F) := pm_soundH (by decide +kernel) (goL_list_F) (gcL_list_F l D hl) rfl rfl ⟨Nat.le_of_ble_eq_true rfl, Nat.le_of_ble_eq_true rfl⟩ hsL_list (fun _ => rfl) (fun _ => rfl) (na_of (show kL_list.all naB = true by decide +kernel))
theorem tL_list_F_i {Q : Qt} {X : HX} {Y : HY} {p1 : Int32} (h : tX8_list_F [.ref 0, .int p1] (LX8 false) (sb (sel8 false) X) (sb (sel8 false) Y) (cWi (LX8 true) (sel8 false) (Lw false).length X Y (fun x X2 Y2 => Q (.inl (some (.int (nI 0)))) (Lw true) X2 (up2 Y2 79 0 x.toInt64)) (fun E X2 Y2 => (E = "java/lang/IllegalArgumentException" ∧ Q (.inl (some (.int (nI 1)))) (Lw true) X2 Y2)))) : tL_list_F [.ref 0, .int p1, .ref 79] (Lw false) X Y Q :=
  w_ent 4 (lv := [some (.ref 0), some (.int p1), some (.ref 79), none]) rfl rfl (w_load (gmL_list_F) 1 rfl rfl rfl rfl (w_pure (gmL_list_F) 2 _ rfl rfl rfl rfl (w_load (gmL_list_F) 3 rfl rfl rfl rfl (w_load (gmL_list_F) 4 rfl rfl rfl rfl (w_call1 (gmL_list_F) 7 _ _ rfl rfl rfl rfl rfl rfl h (fun x X2 Y2 hx => w_pure (gmL_list_F) 8 _ rfl rfl rfl rfl (w_last (gmL_list_F) 9 rfl rfl rfl rfl v1_0 (w_goto (gmL_list_F) 15 rfl rfl (w_pure (gmL_list_F) 16 _ rfl rfl rfl rfl (w_iret (gmL_list_F) rfl rfl rfl rfl hx))))) (fun E X2 Y2 hy => by obtain ⟨rfl, hz⟩ := hy; exact ⟨_, if_pos ⟨rfl, rfl⟩, w_pure (gmL_list_F) 14 _ rfl rfl rfl rfl (w_iret (gmL_list_F) rfl rfl rfl rfl hz)⟩))))))
def caL_listed (b : Bool) : List (Nat × Ce) := [(4, tX8_listed b, 2, 1, (1, 6), some ((Lw b), (sel8 b), (LX8 b), (LX8 b), (Lw b)), some 8)]
def gL_listed (b : Bool) : Gm := (kL_listed, lk ([] : List (Nat × Nat × Nat)), lk (caL_listed b), noT, noN, noV, (1, 6, false))
theorem gmL_listed (b : Bool) : Gmono (gL_listed b) := gm_lk rfl (List.forall_mem_cons.mpr ⟨moX8_listed b, fun _ h => absurd h List.not_mem_nil⟩)
def hdL_listed : Hdl := fun pc E => if pc = 4 ∧ E = "java/util/NoSuchElementException" then some (12, 1, 3) else none
theorem hsL_listed : hdSt RL cL_listed 4 [(0, 9, 12, 26)] [] hdL_listed := by
  intro pc E q hq
  unfold hdL_listed at hq
  split at hq
  · rename_i h
    obtain ⟨rfl, rfl⟩ := h
    cases hq
    exact ⟨[], ⟨0, 9, 12, 26⟩, [], "java/util/NoSuchElementException", rfl, fun z hz => absurd hz List.not_mem_nil, by decide, by decide, by decide +kernel, by decide +kernel, rfl, by decide, Or.inr ⟨3, rfl, (cdOk_at kL_listed_ok (show cdAt kL_listed 12 = some _ from rfl)).1, rfl⟩⟩
  · cases hq
def tL_listed (b : Bool) : Tm := pmTw (gL_listed b) hdL_listed 4
theorem moL_listed (b : Bool) : Tmono (tL_listed b) := pmTw_mono (gmL_listed b) 4
abbrev rmL_listed : Room := ({ frames := 7, cells := 1, slots := 6, locals := 110 } : Room)
theorem csL_listed (l : Launch) (D : va_G) (hl : l.stackTraces = false) (b : Bool) {p : Program} {e : Env} {s : State} {m : MethodId} {args : Array Value} {below : List Frame} {meth : Method} {c : Code} (C : CallFix p m c cL_listed 4 s args TG RL) : CallSnd p l e rmL_listed s m args below meth c D 4 4 (tX8_listed b) 2 1 6 (some 8) :=
  cs_V (ci := 8) (n := 1) (idx := 90) C (meX8_listed l D hl b) (cdOk_at kL_listed_ok (show cdAt kL_listed 4 = some _ from rfl)).1 wX8_listed_c wL_m90 wX8_listed_i wX8_listed_s wX8_z (by decide +kernel) rfl ⟨Nat.le_of_ble_eq_true rfl, Nat.le_of_ble_eq_true rfl⟩
theorem gcL_listed (l : Launch) (D : va_G) (hl : l.stackTraces = false) (b : Bool) : gCalls l D RL cL_listed 4 rmL_listed (gL_listed b) := gc_lk rfl (List.forall_mem_cons.mpr ⟨⟨fun p e s m args below meth c C => csL_listed l D hl b C, ⟨sel8_ok b, sel8_bk b⟩⟩, fun _ h => absurd h List.not_mem_nil⟩)
theorem goL_listed (b : Bool) : gOk RL "listed" cL_listed (some .int) (gL_listed b) := gOk_of kL_listed_ok (fun _ _ _ h => by cases h) (by cases b <;> decide +kernel) (Or.inl (by cases b <;> decide +kernel)) (fun pc E h => by cases h) (fun _ _ _ h => by cases h) (Or.inl (by cases b <;> decide +kernel))
theorem meL_listed (l : Launch) (D : va_G) (hl : l.stackTraces = false) (b : Bool) : pmMetH l D yL_listed cL_listed 4 (some .int) [(0, 9, 12, 26)] rmL_listed [] (tL_listed b) := pm_soundH (by decide +kernel) (goL_listed b) (gcL_listed l D hl b) rfl rfl ⟨Nat.le_of_ble_eq_true rfl, Nat.le_of_ble_eq_true rfl⟩ hsL_listed (fun _ => rfl) (fun _ => rfl) (na_of (show kL_listed.all naB = true by decide +kernel))
theorem tL_listed_i {b : Bool} {Q : Qt} {X : HX} {Y : HY} {p1 : Int32} (h : tX8_listed b [.ref 0, .int p1] (LX8 b) (sb (sel8 b) X) (sb (sel8 b) Y) (cWi (LX8 b) (sel8 b) (Lw b).length X Y (fun x X2 Y2 => Q (.inl (some (.int (nI 0)))) (Lw b) X2 (up2 Y2 79 0 x.toInt64)) (fun E X2 Y2 => (E = "java/util/NoSuchElementException" ∧ Q (.inl (some (.int (nI 1)))) (Lw b) X2 Y2)))) : tL_listed b [.ref 0, .int p1, .ref 79] (Lw b) X Y Q :=
  w_ent 4 (lv := [some (.ref 0), some (.int p1), some (.ref 79), none]) rfl rfl (w_load (gmL_listed b) 1 rfl rfl rfl rfl (w_pure (gmL_listed b) 2 _ rfl rfl rfl rfl (w_load (gmL_listed b) 3 rfl rfl rfl rfl (w_load (gmL_listed b) 4 rfl rfl rfl rfl (w_call1 (gmL_listed b) 7 _ _ rfl (by cases b <;> rfl) rfl rfl rfl rfl h (fun x X2 Y2 hx => w_pure (gmL_listed b) 8 _ rfl rfl rfl rfl (w_last (gmL_listed b) 9 rfl rfl (by cases b <;> rfl) rfl v1_0 (w_goto (gmL_listed b) 15 rfl rfl (w_pure (gmL_listed b) 16 _ rfl rfl rfl rfl (w_iret (gmL_listed b) rfl rfl rfl rfl hx))))) (fun E X2 Y2 hy => by obtain ⟨rfl, hz⟩ := hy; exact ⟨_, if_pos ⟨rfl, rfl⟩, w_pure (gmL_listed b) 14 _ rfl rfl rfl rfl (w_iret (gmL_listed b) rfl rfl rfl rfl hz)⟩))))))
