/-! what is known of the chart, of LIES and of LEAVE looks at no STAYS told -/
section Igs
variable {s : St} {g a w : Nat} {F : Nat → Bool}
theorem sm_ssF : sm (ssF s g a w) = sm s := by unfold sm; rw [Ms_ssF]; rfl
theorem so_ssF : so (ssF s g a w) = so s := by unfold so; rw [Ms_ssF]; rfl
theorem layQ_ssF : layQ (ssF s g a w) = layQ s := by unfold layQ; rw [Ms_ssF]; rfl
theorem mayQ_ssF : mayQ (ssF s g a w) = mayQ s := by unfold mayQ; rw [Ms_ssF]; rfl
theorem leQ_ssF : leQ (ssF s g a w) = leQ s := by unfold leQ; rw [sm_ssF, mayQ_ssF]
theorem chC_ssF : chC (ssF s g a w) = chC s := by unfold chC; rw [sm_ssF, mayQ_ssF, leQ_ssF]
theorem nE_ssF : nE (ssF s g a w) = nE s := by funext x; unfold nE; rw [sm_ssF, chC_ssF, leQ_ssF]
theorem chZ_ssF : chZ (ssF s g a w) = chZ s := by unfold chZ; rw [layQ_ssF, sm_ssF, chC_ssF, leQ_ssF]
theorem nKd_ssF : nKd (ssF s g a w) = nKd s := by funext x; unfold nKd; rw [nE_ssF, chC_ssF]
theorem nPt_ssF : nPt (ssF s g a w) = nPt s := by funext x; unfold nPt; rw [nE_ssF, chC_ssF, sm_ssF, leQ_ssF]
theorem nIv_ssF : nIv (ssF s g a w) = nIv s := by funext x; unfold nIv; rw [nE_ssF, sm_ssF, leQ_ssF]
theorem dbj_ssF : ∀ j, dbj (ssF s g a w) j = dbj s j
  | 0 => rfl
  | j + 1 => by
    unfold dbj
    rw [dbj_ssF j]; rfl
theorem dbL_ssF : dbL (ssF s g a w) = dbL s := dbj_ssF _
theorem fS_ssF (S : Nat) : fS (ssF s g a w) S = fS s S := by
  funext k
  unfold fS nD dbA
  rw [dbL_ssF]; rfl
end Igs
theorem CK8_ig : IgS CK8 := fun X s g a w h => by
  unfold CK8 at h ⊢
  rw [chZ_ssF, chC_ssF, nE_ssF, nKd_ssF, nPt_ssF]; exact h
theorem CM9_ig : IgS CM9 := fun X s g a w h => by
  unfold CM9 at h ⊢
  rw [chZ_ssF, nE_ssF, nIv_ssF, nKd_ssF, nPt_ssF]; exact h
theorem S77_ig : IgS S77 := fun X s g a w h => by
  unfold S77 at h ⊢
  rw [show goodL (ssF s g a w) = goodL s by unfold goodL; rw [Ms_ssF]; rfl]; exact h
theorem S76_ig : IgS S76 := fun X s g a w h => by
  unfold S76 nD at h ⊢
  rw [dbL_ssF, show goodX (ssF s g a w) = goodX s by funext S; unfold goodX; rw [fS_ssF, mt_ssF]; rfl]; exact h
