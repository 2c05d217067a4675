/-! how many MEMORIES are in force -/
noncomputable def nF (s : St) (k : Nat) : Nat := gSz (fun v => v < sN s ∧ sFo s v = true) k
section Frc
variable {s : St}
theorem nF_y {k : Nat} (hk : k < sN s) (h : sFo s k = true) : nF s (k + 1) = nF s k + 1 := by
  unfold nF
  simp only [gSz]
  rw [if_pos ⟨hk, h⟩]
theorem nF_n {k : Nat} (h : sFo s k = false) : nF s (k + 1) = nF s k := by
  unfold nF
  simp only [gSz]
  rw [if_neg (fun z => by rw [h] at z; cases z.2)]
  rfl
theorem cnt_fm (hI : SI s) : cnt (fm s) = nF s (sN s) := by
  have n40 := hI.2.1
  have e : Bs (fm s) = fun v => v < sN s ∧ sFo s v = true := by
    funext v
    apply propext
    show (bmk (sFo s) (sN s)).testBit v = true ↔ _
    rw [bmk_bit, Bool.and_eq_true, decide_eq_true_eq]
  rw [cnt_sz, e]
  have h := gSz_out (P := fun v => v < sN s ∧ sFo s v = true) (n := sN s) (fun v hv => hv.1) (64 - sN s)
  rw [show sN s + (64 - sN s) = 64 by omega] at h
  exact h
end Frc
