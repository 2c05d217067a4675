/-! an answer is a number, or one of the exceptions that are caught -/
def isA (a : Rs) (Es : List String) : Prop := (∃ x, a = rI x) ∨ ∃ E, E ∈ Es ∧ a = .inr E
theorem isA_i {x : Int32} {Es : List String} : isA (rI x) Es := Or.inl ⟨x, rfl⟩
theorem isA_e {E : String} {Es : List String} (h : E ∈ Es) : isA (.inr E) Es := Or.inr ⟨E, h, rfl⟩
theorem isA_c {P : Prop} {a b : Rs} {Es : List String} (h : isA a Es) (k : isA b Es) : isA (cif P a b) Es := by
  by_cases q : P
  · rw [cif_y q]; exact h
  · rw [cif_n q]; exact k
theorem is_aMoment {s : St} {p : Int32} : isA (aMoment s p) [XN] := isA_c isA_i (isA_e (by simp))
theorem is_aLay {s : St} {p : Int32} : isA (aLay s p) [XS] := isA_c isA_i (isA_e (by simp))
theorem is_aStays {s : St} {p q : Int32} : isA (aStays s p q) [XI, XS] := isA_c (isA_c isA_i (isA_e (by simp))) (isA_e (by simp))
theorem is_aPair {s : St} {p q : Int32} : isA (aPair s p q) [XI] := isA_c isA_i (isA_e (by simp))
theorem is_aRoom {s : St} {p : Int32} : isA (aRoom s p) [XI, XS] := isA_c (isA_c isA_i (isA_e (by simp))) (isA_e (by simp))
theorem is_aRooms {s : St} : isA (aRooms s) [XS] := isA_c isA_i (isA_e (by simp))
theorem is_aLeave {s : St} {p : Int32} : isA (aLeave s p) [XN] := isA_c (isA_e (by simp)) isA_i
theorem is_aLies {s : St} {p : Int32} : isA (aLies s p) [XN] := isA_c (isA_e (by simp)) isA_i
theorem is_aSpan {s : St} {p q : Int32} : isA (aSpan s p q) [XI] := isA_c isA_i (isA_e (by simp))
theorem is_aMust {s : St} {p q : Int32} : isA (aMust s p q) [XI] := isA_c isA_i (isA_e (by simp))
theorem is_aBetween {s : St} {p q w : Int32} : isA (aBetween s p q w) [XI, XS] := isA_c (isA_c isA_i (isA_e (by simp))) (isA_e (by simp))
theorem is_aQuarrels {s : St} {p : Int32} : isA (aQuarrels s p) [XI] := isA_c isA_i (isA_e (by simp))
theorem is_aAbout {s : St} {p q : Int32} : isA (aAbout s p q) [XI, XN] := isA_c (isA_c isA_i (isA_e (by simp))) (isA_e (by simp))
theorem is_aJudge {s : St} {p : Int32} : isA (aJudge s p) [XN] := isA_c isA_i (isA_e (by simp))
theorem is_aTwice {s : St} {p : Int32} : isA (aTwice s p) [XI] := isA_c isA_i (isA_e (by simp))
theorem is_aNode {s : St} {p q : Int32} : isA (aNode s p q) [XS, XN] := isA_c (isA_c isA_i (isA_e (by simp))) (isA_e (by simp))
theorem is_aListed {l : Ls} {p : Int32} : isA (aListed l p) [XN] := isA_c isA_i (isA_e (by simp))
