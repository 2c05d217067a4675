/-! the JDK's count of bits, by the machine -/
def jl1 (p : Int64) : Int64 := p - (((p.toUInt64 >>> ((nI 1).toInt64.toUInt64 &&& Int64.toUInt64 63)).toInt64) &&& 6148914691236517205)
def jl2 (p : Int64) : Int64 := ((p) &&& 3689348814741910323) + ((((p).toUInt64 >>> ((nI 2).toInt64.toUInt64 &&& Int64.toUInt64 63)).toInt64) &&& 3689348814741910323)
def jl3 (p : Int64) : Int64 := ((p) + (((p).toUInt64 >>> ((nI 4).toInt64.toUInt64 &&& Int64.toUInt64 63)).toInt64)) &&& 1085102592571150095
def jl4 (p : Int64) : Int64 := (p) + (((p).toUInt64 >>> ((nI 8).toInt64.toUInt64 &&& Int64.toUInt64 63)).toInt64)
def jl5 (p : Int64) : Int64 := (p) + (((p).toUInt64 >>> ((nI 16).toInt64.toUInt64 &&& Int64.toUInt64 63)).toInt64)
def jl6 (p : Int64) : Int64 := (p) + (((p).toUInt64 >>> ((nI 32).toInt64.toUInt64 &&& Int64.toUInt64 63)).toInt64)
theorem tJ13_bitCount_95d88_j {Q : Qt} {r : Ly} {p1 : Int64} {X : HX} {Y : HY} (h : Q (.inl (some (.int (((jl6 (jl5 (jl4 (jl3 (jl2 (jl1 p1)))))).toInt32) &&& (nI 127))))) r X Y) : tJ13_bitCount_95d88 [.long p1] r X Y Q :=
  q_ent (g := gJ13_bitCount_95d88) 2 (lv := [some (.long p1), none]) rfl rfl (q_load gmJ13_bitCount_95d88 1 rfl rfl rfl (q_load gmJ13_bitCount_95d88 2 rfl rfl rfl (q_pure gmJ13_bitCount_95d88 3 [.int (nI 1), .long p1, .long p1] rfl rfl rfl (q_pure gmJ13_bitCount_95d88 4 [.long ((p1.toUInt64 >>> ((nI 1).toInt64.toUInt64 &&& Int64.toUInt64 63)).toInt64), .long p1] rfl rfl rfl (q_ldc2 gmJ13_bitCount_95d88 7 rfl rfl rfl (q_pure gmJ13_bitCount_95d88 8 [.long (((p1.toUInt64 >>> ((nI 1).toInt64.toUInt64 &&& Int64.toUInt64 63)).toInt64) &&& 6148914691236517205), .long p1] rfl rfl rfl (q_pure gmJ13_bitCount_95d88 9 [.long (p1 - (((p1.toUInt64 >>> ((nI 1).toInt64.toUInt64 &&& Int64.toUInt64 63)).toInt64) &&& 6148914691236517205))] rfl rfl rfl (q_store gmJ13_bitCount_95d88 10 [some (.long (jl1 p1)), none] rfl rfl rfl (q_load gmJ13_bitCount_95d88 11 rfl rfl rfl (q_ldc2 gmJ13_bitCount_95d88 14 rfl rfl rfl (q_pure gmJ13_bitCount_95d88 15 [.long ((jl1 p1) &&& 3689348814741910323)] rfl rfl rfl (q_load gmJ13_bitCount_95d88 16 rfl rfl rfl (q_pure gmJ13_bitCount_95d88 17 [.int (nI 2), .long (jl1 p1), .long ((jl1 p1) &&& 3689348814741910323)] rfl rfl rfl (q_pure gmJ13_bitCount_95d88 18 [.long (((jl1 p1).toUInt64 >>> ((nI 2).toInt64.toUInt64 &&& Int64.toUInt64 63)).toInt64), .long ((jl1 p1) &&& 3689348814741910323)] rfl rfl rfl (q_ldc2 gmJ13_bitCount_95d88 21 rfl rfl rfl (q_pure gmJ13_bitCount_95d88 22 [.long ((((jl1 p1).toUInt64 >>> ((nI 2).toInt64.toUInt64 &&& Int64.toUInt64 63)).toInt64) &&& 3689348814741910323), .long ((jl1 p1) &&& 3689348814741910323)] rfl rfl rfl (q_pure gmJ13_bitCount_95d88 23 [.long (((jl1 p1) &&& 3689348814741910323) + ((((jl1 p1).toUInt64 >>> ((nI 2).toInt64.toUInt64 &&& Int64.toUInt64 63)).toInt64) &&& 3689348814741910323))] rfl rfl rfl (q_store gmJ13_bitCount_95d88 24 [some (.long (jl2 (jl1 p1))), none] rfl rfl rfl (q_load gmJ13_bitCount_95d88 25 rfl rfl rfl (q_load gmJ13_bitCount_95d88 26 rfl rfl rfl (q_pure gmJ13_bitCount_95d88 27 [.int (nI 4), .long (jl2 (jl1 p1)), .long (jl2 (jl1 p1))] rfl rfl rfl (q_pure gmJ13_bitCount_95d88 28 [.long (((jl2 (jl1 p1)).toUInt64 >>> ((nI 4).toInt64.toUInt64 &&& Int64.toUInt64 63)).toInt64), .long (jl2 (jl1 p1))] rfl rfl rfl (q_pure gmJ13_bitCount_95d88 29 [.long ((jl2 (jl1 p1)) + (((jl2 (jl1 p1)).toUInt64 >>> ((nI 4).toInt64.toUInt64 &&& Int64.toUInt64 63)).toInt64))] rfl rfl rfl (q_ldc2 gmJ13_bitCount_95d88 32 rfl rfl rfl (q_pure gmJ13_bitCount_95d88 33 [.long (((jl2 (jl1 p1)) + (((jl2 (jl1 p1)).toUInt64 >>> ((nI 4).toInt64.toUInt64 &&& Int64.toUInt64 63)).toInt64)) &&& 1085102592571150095)] rfl rfl rfl (q_store gmJ13_bitCount_95d88 34 [some (.long (jl3 (jl2 (jl1 p1)))), none] rfl rfl rfl (q_load gmJ13_bitCount_95d88 35 rfl rfl rfl (q_load gmJ13_bitCount_95d88 36 rfl rfl rfl (q_pure gmJ13_bitCount_95d88 38 [.int (nI 8), .long (jl3 (jl2 (jl1 p1))), .long (jl3 (jl2 (jl1 p1)))] rfl rfl rfl (q_pure gmJ13_bitCount_95d88 39 [.long (((jl3 (jl2 (jl1 p1))).toUInt64 >>> ((nI 8).toInt64.toUInt64 &&& Int64.toUInt64 63)).toInt64), .long (jl3 (jl2 (jl1 p1)))] rfl rfl rfl (q_pure gmJ13_bitCount_95d88 40 [.long ((jl3 (jl2 (jl1 p1))) + (((jl3 (jl2 (jl1 p1))).toUInt64 >>> ((nI 8).toInt64.toUInt64 &&& Int64.toUInt64 63)).toInt64))] rfl rfl rfl (q_store gmJ13_bitCount_95d88 41 [some (.long (jl4 (jl3 (jl2 (jl1 p1))))), none] rfl rfl rfl (q_load gmJ13_bitCount_95d88 42 rfl rfl rfl (q_load gmJ13_bitCount_95d88 43 rfl rfl rfl (q_pure gmJ13_bitCount_95d88 45 [.int (nI 16), .long (jl4 (jl3 (jl2 (jl1 p1)))), .long (jl4 (jl3 (jl2 (jl1 p1))))] rfl rfl rfl (q_pure gmJ13_bitCount_95d88 46 [.long (((jl4 (jl3 (jl2 (jl1 p1)))).toUInt64 >>> ((nI 16).toInt64.toUInt64 &&& Int64.toUInt64 63)).toInt64), .long (jl4 (jl3 (jl2 (jl1 p1))))] rfl rfl rfl (q_pure gmJ13_bitCount_95d88 47 [.long ((jl4 (jl3 (jl2 (jl1 p1)))) + (((jl4 (jl3 (jl2 (jl1 p1)))).toUInt64 >>> ((nI 16).toInt64.toUInt64 &&& Int64.toUInt64 63)).toInt64))] rfl rfl rfl (q_store gmJ13_bitCount_95d88 48 [some (.long (jl5 (jl4 (jl3 (jl2 (jl1 p1)))))), none] rfl rfl rfl (q_load gmJ13_bitCount_95d88 49 rfl rfl rfl (q_load gmJ13_bitCount_95d88 50 rfl rfl rfl (q_pure gmJ13_bitCount_95d88 52 [.int (nI 32), .long (jl5 (jl4 (jl3 (jl2 (jl1 p1))))), .long (jl5 (jl4 (jl3 (jl2 (jl1 p1)))))] rfl rfl rfl (q_pure gmJ13_bitCount_95d88 53 [.long (((jl5 (jl4 (jl3 (jl2 (jl1 p1))))).toUInt64 >>> ((nI 32).toInt64.toUInt64 &&& Int64.toUInt64 63)).toInt64), .long (jl5 (jl4 (jl3 (jl2 (jl1 p1)))))] rfl rfl rfl (q_pure gmJ13_bitCount_95d88 54 [.long ((jl5 (jl4 (jl3 (jl2 (jl1 p1))))) + (((jl5 (jl4 (jl3 (jl2 (jl1 p1))))).toUInt64 >>> ((nI 32).toInt64.toUInt64 &&& Int64.toUInt64 63)).toInt64))] rfl rfl rfl (q_store gmJ13_bitCount_95d88 55 [some (.long (jl6 (jl5 (jl4 (jl3 (jl2 (jl1 p1))))))), none] rfl rfl rfl (q_load gmJ13_bitCount_95d88 56 rfl rfl rfl (q_pure gmJ13_bitCount_95d88 57 [.int ((jl6 (jl5 (jl4 (jl3 (jl2 (jl1 p1)))))).toInt32)] rfl rfl rfl (q_pure gmJ13_bitCount_95d88 59 [.int (nI 127), .int ((jl6 (jl5 (jl4 (jl3 (jl2 (jl1 p1)))))).toInt32)] rfl rfl rfl (q_pure gmJ13_bitCount_95d88 60 [.int (((jl6 (jl5 (jl4 (jl3 (jl2 (jl1 p1)))))).toInt32) &&& (nI 127))] rfl rfl rfl (q_iret gmJ13_bitCount_95d88 rfl rfl rfl h)))))))))))))))))))))))))))))))))))))))))))))))))
def ji1 (p : Int32) : Int32 := p - (((p.toUInt32 >>> ((nI 1).toUInt32 &&& Int32.toUInt32 31)).toInt32) &&& 1431655765)
def ji2 (p : Int32) : Int32 := ((p) &&& 858993459) + ((((p).toUInt32 >>> ((nI 2).toUInt32 &&& Int32.toUInt32 31)).toInt32) &&& 858993459)
def ji3 (p : Int32) : Int32 := ((p) + (((p).toUInt32 >>> ((nI 4).toUInt32 &&& Int32.toUInt32 31)).toInt32)) &&& 252645135
def ji4 (p : Int32) : Int32 := (p) + (((p).toUInt32 >>> ((nI 8).toUInt32 &&& Int32.toUInt32 31)).toInt32)
def ji5 (p : Int32) : Int32 := (p) + (((p).toUInt32 >>> ((nI 16).toUInt32 &&& Int32.toUInt32 31)).toInt32)
theorem tJ6_bitCount_0f7a4_j {Q : Qt} {r : Ly} {p1 : Int32} {X : HX} {Y : HY} (h : Q (.inl (some (.int ((ji5 (ji4 (ji3 (ji2 (ji1 p1))))) &&& (nI 63))))) r X Y) : tJ6_bitCount_0f7a4 [.int p1] r X Y Q :=
  q_ent (g := gJ6_bitCount_0f7a4) 1 (lv := [some (.int p1)]) rfl rfl (q_load gmJ6_bitCount_0f7a4 1 rfl rfl rfl (q_load gmJ6_bitCount_0f7a4 2 rfl rfl rfl (q_pure gmJ6_bitCount_0f7a4 3 [.int (nI 1), .int p1, .int p1] rfl rfl rfl (q_pure gmJ6_bitCount_0f7a4 4 [.int ((p1.toUInt32 >>> ((nI 1).toUInt32 &&& Int32.toUInt32 31)).toInt32), .int p1] rfl rfl rfl (q_ldcw gmJ6_bitCount_0f7a4 7 rfl rfl rfl (q_pure gmJ6_bitCount_0f7a4 8 [.int (((p1.toUInt32 >>> ((nI 1).toUInt32 &&& Int32.toUInt32 31)).toInt32) &&& 1431655765), .int p1] rfl rfl rfl (q_pure gmJ6_bitCount_0f7a4 9 [.int (p1 - (((p1.toUInt32 >>> ((nI 1).toUInt32 &&& Int32.toUInt32 31)).toInt32) &&& 1431655765))] rfl rfl rfl (q_store gmJ6_bitCount_0f7a4 10 [some (.int (ji1 p1))] rfl rfl rfl (q_load gmJ6_bitCount_0f7a4 11 rfl rfl rfl (q_ldcw gmJ6_bitCount_0f7a4 14 rfl rfl rfl (q_pure gmJ6_bitCount_0f7a4 15 [.int ((ji1 p1) &&& 858993459)] rfl rfl rfl (q_load gmJ6_bitCount_0f7a4 16 rfl rfl rfl (q_pure gmJ6_bitCount_0f7a4 17 [.int (nI 2), .int (ji1 p1), .int ((ji1 p1) &&& 858993459)] rfl rfl rfl (q_pure gmJ6_bitCount_0f7a4 18 [.int (((ji1 p1).toUInt32 >>> ((nI 2).toUInt32 &&& Int32.toUInt32 31)).toInt32), .int ((ji1 p1) &&& 858993459)] rfl rfl rfl (q_ldcw gmJ6_bitCount_0f7a4 21 rfl rfl rfl (q_pure gmJ6_bitCount_0f7a4 22 [.int ((((ji1 p1).toUInt32 >>> ((nI 2).toUInt32 &&& Int32.toUInt32 31)).toInt32) &&& 858993459), .int ((ji1 p1) &&& 858993459)] rfl rfl rfl (q_pure gmJ6_bitCount_0f7a4 23 [.int (((ji1 p1) &&& 858993459) + ((((ji1 p1).toUInt32 >>> ((nI 2).toUInt32 &&& Int32.toUInt32 31)).toInt32) &&& 858993459))] rfl rfl rfl (q_store gmJ6_bitCount_0f7a4 24 [some (.int (ji2 (ji1 p1)))] rfl rfl rfl (q_load gmJ6_bitCount_0f7a4 25 rfl rfl rfl (q_load gmJ6_bitCount_0f7a4 26 rfl rfl rfl (q_pure gmJ6_bitCount_0f7a4 27 [.int (nI 4), .int (ji2 (ji1 p1)), .int (ji2 (ji1 p1))] rfl rfl rfl (q_pure gmJ6_bitCount_0f7a4 28 [.int (((ji2 (ji1 p1)).toUInt32 >>> ((nI 4).toUInt32 &&& Int32.toUInt32 31)).toInt32), .int (ji2 (ji1 p1))] rfl rfl rfl (q_pure gmJ6_bitCount_0f7a4 29 [.int ((ji2 (ji1 p1)) + (((ji2 (ji1 p1)).toUInt32 >>> ((nI 4).toUInt32 &&& Int32.toUInt32 31)).toInt32))] rfl rfl rfl (q_ldcw gmJ6_bitCount_0f7a4 32 rfl rfl rfl (q_pure gmJ6_bitCount_0f7a4 33 [.int (((ji2 (ji1 p1)) + (((ji2 (ji1 p1)).toUInt32 >>> ((nI 4).toUInt32 &&& Int32.toUInt32 31)).toInt32)) &&& 252645135)] rfl rfl rfl (q_store gmJ6_bitCount_0f7a4 34 [some (.int (ji3 (ji2 (ji1 p1))))] rfl rfl rfl (q_load gmJ6_bitCount_0f7a4 35 rfl rfl rfl (q_load gmJ6_bitCount_0f7a4 36 rfl rfl rfl (q_pure gmJ6_bitCount_0f7a4 38 [.int (nI 8), .int (ji3 (ji2 (ji1 p1))), .int (ji3 (ji2 (ji1 p1)))] rfl rfl rfl (q_pure gmJ6_bitCount_0f7a4 39 [.int (((ji3 (ji2 (ji1 p1))).toUInt32 >>> ((nI 8).toUInt32 &&& Int32.toUInt32 31)).toInt32), .int (ji3 (ji2 (ji1 p1)))] rfl rfl rfl (q_pure gmJ6_bitCount_0f7a4 40 [.int ((ji3 (ji2 (ji1 p1))) + (((ji3 (ji2 (ji1 p1))).toUInt32 >>> ((nI 8).toUInt32 &&& Int32.toUInt32 31)).toInt32))] rfl rfl rfl (q_store gmJ6_bitCount_0f7a4 41 [some (.int (ji4 (ji3 (ji2 (ji1 p1)))))] rfl rfl rfl (q_load gmJ6_bitCount_0f7a4 42 rfl rfl rfl (q_load gmJ6_bitCount_0f7a4 43 rfl rfl rfl (q_pure gmJ6_bitCount_0f7a4 45 [.int (nI 16), .int (ji4 (ji3 (ji2 (ji1 p1)))), .int (ji4 (ji3 (ji2 (ji1 p1))))] rfl rfl rfl (q_pure gmJ6_bitCount_0f7a4 46 [.int (((ji4 (ji3 (ji2 (ji1 p1)))).toUInt32 >>> ((nI 16).toUInt32 &&& Int32.toUInt32 31)).toInt32), .int (ji4 (ji3 (ji2 (ji1 p1))))] rfl rfl rfl (q_pure gmJ6_bitCount_0f7a4 47 [.int ((ji4 (ji3 (ji2 (ji1 p1)))) + (((ji4 (ji3 (ji2 (ji1 p1)))).toUInt32 >>> ((nI 16).toUInt32 &&& Int32.toUInt32 31)).toInt32))] rfl rfl rfl (q_store gmJ6_bitCount_0f7a4 48 [some (.int (ji5 (ji4 (ji3 (ji2 (ji1 p1))))))] rfl rfl rfl (q_load gmJ6_bitCount_0f7a4 49 rfl rfl rfl (q_pure gmJ6_bitCount_0f7a4 51 [.int (nI 63), .int (ji5 (ji4 (ji3 (ji2 (ji1 p1)))))] rfl rfl rfl (q_pure gmJ6_bitCount_0f7a4 52 [.int ((ji5 (ji4 (ji3 (ji2 (ji1 p1))))) &&& (nI 63))] rfl rfl rfl (q_iret gmJ6_bitCount_0f7a4 rfl rfl rfl h))))))))))))))))))))))))))))))))))))))))))
theorem c_dv {A R k : Nat} (h : A < k) : (A + k * R) / k = R := by
  rw [Nat.add_mul_div_left _ _ (by omega), Nat.div_eq_of_lt h, Nat.zero_add]
def N8 (d0 d1 d2 d3 d4 d5 d6 d7 : Nat) : Nat := d0 + 256 * (d1 + 256 * (d2 + 256 * (d3 + 256 * (d4 + 256 * (d5 + 256 * (d6 + 256 * d7))))))
theorem N8_s1 {a b R S : Nat} (h : R = b + 256 * S) : a + 256 * R + R = a + b + 256 * (R + S) := by omega
theorem N8_s2 {a b c d R S : Nat} (h : R = c + 256 * (d + 256 * S)) : a + 256 * (b + 256 * R) + R = a + c + 256 * (b + d + 256 * (R + S)) := by omega
theorem sh1 {d0 d1 d2 d3 d4 d5 d6 d7 : Nat} (h : d0 < 256) : N8 d0 d1 d2 d3 d4 d5 d6 d7 + N8 d0 d1 d2 d3 d4 d5 d6 d7 / 256 = N8 (d0 + d1) (d1 + d2) (d2 + d3) (d3 + d4) (d4 + d5) (d5 + d6) (d6 + d7) d7 := by
  unfold N8
  rw [c_dv h, N8_s1 rfl, N8_s1 rfl, N8_s1 rfl, N8_s1 rfl, N8_s1 rfl, N8_s1 rfl]
  congr 1; congr 1; congr 1; congr 1; congr 1; congr 1; congr 1; congr 1; congr 1; congr 1; congr 1; congr 1
  omega
theorem sh2 {d0 d1 d2 d3 d4 d5 d6 d7 : Nat} (h : d0 < 256) (h1 : d1 < 256) : N8 d0 d1 d2 d3 d4 d5 d6 d7 + N8 d0 d1 d2 d3 d4 d5 d6 d7 / 65536 = N8 (d0 + d2) (d1 + d3) (d2 + d4) (d3 + d5) (d4 + d6) (d5 + d7) d6 d7 := by
  have e : ∀ R, d0 + 256 * (d1 + 256 * R) = (d0 + 256 * d1) + 65536 * R := fun R => by omega
  have e2 : ∀ R, (d0 + 256 * (d1 + 256 * R)) / 65536 = R := fun R => by rw [e, c_dv (by omega)]
  unfold N8
  rw [e2, N8_s2 rfl, N8_s2 rfl]
  have e3 : d4 + 256 * (d5 + 256 * (d6 + 256 * d7)) + (d6 + 256 * d7) = d4 + d6 + 256 * (d5 + d7 + 256 * (d6 + 256 * d7)) := by omega
  rw [e3]
theorem sh4 {d0 d1 d2 d3 d4 d5 d6 d7 : Nat} (h : d0 < 256) (h1 : d1 < 256) (h2 : d2 < 256) (h3 : d3 < 256) : (N8 d0 d1 d2 d3 d4 d5 d6 d7 + N8 d0 d1 d2 d3 d4 d5 d6 d7 / 4294967296) % 128 = (d0 + d4) % 128 := by
  have e : ∀ R, d0 + 256 * (d1 + 256 * (d2 + 256 * (d3 + 256 * R))) = (d0 + 256 * (d1 + 256 * (d2 + 256 * d3))) + 4294967296 * R := fun R => by omega
  have e2 : ∀ R, (d0 + 256 * (d1 + 256 * (d2 + 256 * (d3 + 256 * R)))) / 4294967296 = R := fun R => by rw [e, c_dv (by omega)]
  have e3 : ∀ A R, (d0 + 256 * A + (d4 + 256 * R)) % 128 = (d0 + d4) % 128 := fun A R => by omega
  unfold N8
  rw [e2, e3]
theorem N8_lt {d0 d1 d2 d3 d4 d5 d6 d7 : Nat} (h0 : d0 < 256) (h1 : d1 < 256) (h2 : d2 < 256) (h3 : d3 < 256) (h4 : d4 < 256) (h5 : d5 < 256) (h6 : d6 < 256) (h7 : d7 < 256) : N8 d0 d1 d2 d3 d4 d5 d6 d7 < 18446744073709551616 := by
  have st : ∀ d R k, d < 256 → R < k → d + 256 * R < 256 * k := fun d R k q1 q2 => by omega
  have a6 := st d6 d7 256 h6 h7
  have a5 := st d5 _ _ h5 a6
  have a4 := st d4 _ _ h4 a5
  have a3 := st d3 _ _ h3 a4
  have a2 := st d2 _ _ h2 a3
  have a1 := st d1 _ _ h1 a2
  have a0 := st d0 _ _ h0 a1
  exact a0
theorem bc64 {Q : Qt} {r : Ly} {X : HX} {Y : HY} {m : Nat} (hm : m < 18446744073709551616) (h : Q (.inl (some (.int (nI (cnt m))))) r X Y) : tJ13_bitCount_95d88 [.long (lN m)] r X Y Q := by
  obtain ⟨k5, k3, kf, -⟩ := c_8
  refine tJ13_bitCount_95d88_j ?_
  have l5 : (6148914691236517205 : Int64) = lN (cM5 8) := by rw [k5]; rfl
  have l3 : (3689348814741910323 : Int64) = lN (cM3 8) := by rw [k3]; rfl
  have lf : (1085102592571150095 : Int64) = lN (cMf 8) := by rw [kf]; rfl
  have e1 : jl1 (lN m) = lN (cs1 8 m) := by
    unfold jl1
    rw [l5, m_Lush hm (by omega), m_Land, m_Lsub (Nat.le_trans Nat.and_le_left (Nat.div_le_self _ _))]
    rfl
  have b1 : cs1 8 m < 18446744073709551616 := Nat.lt_of_le_of_lt (Nat.sub_le _ _) hm
  have e2 : jl2 (lN (cs1 8 m)) = lN (cs2 8 m) := by
    unfold jl2
    rw [l3, m_Lush b1 (by omega), m_Land, m_Land, m_Ladd]
    rfl
  have b2 : cs2 8 m < 18446744073709551616 := by
    have a1 : cs1 8 m &&& cM3 8 ≤ cM3 8 := Nat.and_le_right
    have a2 : cs1 8 m / 4 &&& cM3 8 ≤ cM3 8 := Nat.and_le_right
    unfold cs2; omega
  have e3 : jl3 (lN (cs2 8 m)) = lN (cs3 8 m) := by
    unfold jl3
    rw [lf, m_Lush b2 (by omega), m_Ladd, m_Land]
    rfl
  have b3 : cs3 8 m ≤ 1085102592571150095 := by
    rw [← kf]; exact Nat.and_le_right
  have e4 : ∀ z, z < 18446744073709551616 → jl4 (lN z) = lN (z + z / 2 ^ 8) := fun z hz => by unfold jl4; rw [m_Lush hz (by omega), m_Ladd]
  have e5 : ∀ z, z < 18446744073709551616 → jl5 (lN z) = lN (z + z / 2 ^ 16) := fun z hz => by unfold jl5; rw [m_Lush hz (by omega), m_Ladd]
  have e6 : ∀ z, z < 18446744073709551616 → jl6 (lN z) = lN (z + z / 2 ^ 32) := fun z hz => by unfold jl6; rw [m_Lush hz (by omega), m_Ladd]
  have a127 : ∀ x : Nat, x &&& 127 = x % 128 := fun x => Nat.and_two_pow_sub_one_eq_mod x 7
  obtain ⟨c0, c1, c2, c3, c4, c5, c6, c7, h0, h1, h2, h3, h4, h5, h6, h7, hV, hS⟩ := cs3_8 hm
  have hc : cnt m = c0 + c1 + c2 + c3 + c4 + c5 + c6 + c7 := hS
  have hV : cs3 8 m = N8 c0 c1 c2 c3 c4 c5 c6 c7 := hV
  rw [e1, e2, e3, e4 _ (by omega), hV, show (2 : Nat) ^ 8 = 256 from rfl, sh1 (by omega), e5 _ (N8_lt (by omega) (by omega) (by omega) (by omega) (by omega) (by omega) (by omega) (by omega)), show (2 : Nat) ^ 16 = 65536 from rfl, sh2 (by omega) (by omega), e6 _ (N8_lt (by omega) (by omega) (by omega) (by omega) (by omega) (by omega) (by omega) (by omega)), m_i, m_and, a127, show (2 : Nat) ^ 32 = 4294967296 from rfl, sh4 (by omega) (by omega) (by omega) (by omega), Nat.mod_eq_of_lt (by omega)]
  have e9 : c0 + c1 + (c2 + c3) + (c4 + c5 + (c6 + c7)) = cnt m := by rw [hc]; omega
  rw [e9]
  exact h
theorem bc32 {Q : Qt} {r : Ly} {X : HX} {Y : HY} {m : Nat} (hm : m < 4294967296) (h : Q (.inl (some (.int (nI (cnt m))))) r X Y) : tJ6_bitCount_0f7a4 [.int (nI m)] r X Y Q := by
  obtain ⟨-, -, -, k5, k3, kf⟩ := c_8
  refine tJ6_bitCount_0f7a4_j ?_
  have l5 : (1431655765 : Int32) = nI (cM5 4) := by rw [k5]; rfl
  have l3 : (858993459 : Int32) = nI (cM3 4) := by rw [k3]; rfl
  have lf : (252645135 : Int32) = nI (cMf 4) := by rw [kf]; rfl
  have e1 : ji1 (nI m) = nI (cs1 4 m) := by
    unfold ji1
    rw [l5, m_ush hm (by omega), m_and, m_sub (Nat.le_trans Nat.and_le_left (Nat.div_le_self _ _))]
    rfl
  have b1 : cs1 4 m < 4294967296 := Nat.lt_of_le_of_lt (Nat.sub_le _ _) hm
  have e2 : ji2 (nI (cs1 4 m)) = nI (cs2 4 m) := by
    unfold ji2
    rw [l3, m_ush b1 (by omega), m_and, m_and, m_add]
    rfl
  have b2 : cs2 4 m < 4294967296 := by
    have a1 : cs1 4 m &&& cM3 4 ≤ cM3 4 := Nat.and_le_right
    have a2 : cs1 4 m / 4 &&& cM3 4 ≤ cM3 4 := Nat.and_le_right
    unfold cs2; omega
  have e3 : ji3 (nI (cs2 4 m)) = nI (cs3 4 m) := by
    unfold ji3
    rw [lf, m_ush b2 (by omega), m_add, m_and]
    rfl
  have b3 : cs3 4 m ≤ 252645135 := by
    rw [← kf]; exact Nat.and_le_right
  have e4 : ∀ z, z < 4294967296 → ji4 (nI z) = nI (z + z / 2 ^ 8) := fun z hz => by unfold ji4; rw [m_ush hz (by omega), m_add]
  have e5 : ∀ z, z < 4294967296 → ji5 (nI z) = nI (z + z / 2 ^ 16) := fun z hz => by unfold ji5; rw [m_ush hz (by omega), m_add]
  have a63 : ∀ x : Nat, x &&& 63 = x % 64 := fun x => Nat.and_two_pow_sub_one_eq_mod x 6
  obtain ⟨c0, c1, c2, c3, h0, h1, h2, h3, hV, hS⟩ := cs3_4 hm
  have hc : cnt m = c0 + c1 + c2 + c3 := (pcn_out (k := 32) (by omega) 32).trans hS
  have hV : cs3 4 m = N8 c0 c1 c2 c3 0 0 0 0 := by rw [hV]; unfold N8; omega
  rw [e1, e2, e3, e4 _ (by omega), hV, show (2 : Nat) ^ 8 = 256 from rfl, sh1 (by omega), e5 _ (by
    have st : ∀ d R k, d < 256 → R < k → d + 256 * R < 256 * k := fun d R k q1 q2 => by omega
    have a3 := st (c3 + 0) 0 1 (by omega) (by omega)
    have a2 := st (c2 + c3) _ _ (by omega) a3
    have a1 := st (c1 + c2) _ _ (by omega) a2
    have a0 := st (c0 + c1) _ _ (by omega) a1
    exact a0), show (2 : Nat) ^ 16 = 65536 from rfl, sh2 (by omega) (by omega), m_and, a63]
  have e8 : ∀ A, (c0 + c1 + (c2 + c3) + 256 * A) % 64 = (c0 + c1 + (c2 + c3)) % 64 := fun A => by omega
  have e9 : c0 + c1 + (c2 + c3) = cnt m := by rw [hc]; omega
  unfold N8
  rw [e8, Nat.mod_eq_of_lt (by omega), e9]
  exact h
