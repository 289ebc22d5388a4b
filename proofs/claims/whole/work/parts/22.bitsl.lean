/-! HOW MANY BITS A LONG HAS -/
theorem bl_1 {n : Nat} (hn : n < 1099511627776) : w64 ((n : Int) - lan (lus (n : Int) 1) 6148914691236517205) = ((q1 8 n : Nat) : Int) ∧ q1 8 n ≤ n := by
  have i1 : lus (n : Int) 1 = ((n / 2 : Nat) : Int) := lus_nat (a := n) (k := 1) (by omega) (by omega)
  have a1 : lan ((n / 2 : Nat) : Int) 6148914691236517205 = ((n / 2 &&& 6148914691236517205 : Nat) : Int) := lan_nat (a := n / 2) (b := 6148914691236517205) (by omega) (by omega)
  have l1 : n / 2 &&& 6148914691236517205 ≤ n / 2 := Nat.and_le_left
  unfold q1
  rw [rep_v.2.2.2.1, i1, a1]
  generalize n / 2 &&& 6148914691236517205 = u at *
  refine ⟨?_, by omega⟩
  rw [w64n (by omega) (by omega)]
  omega
theorem bl_2 {y : Nat} (hy : y < 1099511627776) : w64 (lan (y : Int) 3689348814741910323 + lan (lus (y : Int) 2) 3689348814741910323) = ((q2 8 y : Nat) : Int) ∧ q2 8 y ≤ 2199023255552 := by
  have a2 : lan (y : Int) 3689348814741910323 = ((y &&& 3689348814741910323 : Nat) : Int) := lan_nat (a := y) (b := 3689348814741910323) (by omega) (by omega)
  have i2 : lus (y : Int) 2 = ((y / 4 : Nat) : Int) := lus_nat (a := y) (k := 2) (by omega) (by omega)
  have a3 : lan ((y / 4 : Nat) : Int) 3689348814741910323 = ((y / 4 &&& 3689348814741910323 : Nat) : Int) := lan_nat (a := y / 4) (b := 3689348814741910323) (by omega) (by omega)
  have l2 : y &&& 3689348814741910323 ≤ y := Nat.and_le_left
  have l3 : y / 4 &&& 3689348814741910323 ≤ y / 4 := Nat.and_le_left
  unfold q2
  rw [rep_v.2.2.2.2.1, a2, i2, a3]
  generalize y &&& 3689348814741910323 = u at *
  generalize y / 4 &&& 3689348814741910323 = v at *
  refine ⟨?_, by omega⟩
  rw [w64n (by omega) (by omega)]
  omega
theorem bl_3 {z : Nat} (hz : z ≤ 2199023255552) : lan (w64 ((z : Int) + lus (z : Int) 4)) 1085102592571150095 = ((q3 8 z : Nat) : Int) := by
  have i3 : lus (z : Int) 4 = ((z / 16 : Nat) : Int) := lus_nat (a := z) (k := 4) (by omega) (by omega)
  have a4 : lan ((z + z / 16 : Nat) : Int) 1085102592571150095 = ((z + z / 16 &&& 1085102592571150095 : Nat) : Int) := lan_nat (a := z + z / 16) (b := 1085102592571150095) (by omega) (by omega)
  have e : w64 ((z : Int) + ((z / 16 : Nat) : Int)) = ((z + z / 16 : Nat) : Int) := by rw [w64n (by omega) (by omega)]; omega
  unfold q3
  rw [rep_v.2.2.2.2.2, i3, e, a4]
theorem bl_s {t k : Nat} (ht : t < 1125899906842624) (hk : k < 64) : w64 ((t : Int) + lus (t : Int) (k : Nat)) = ((t + t / 2 ^ k : Nat) : Int) := by
  have i5 : lus (t : Int) (k : Nat) = ((t / 2 ^ k : Nat) : Int) := lus_nat (a := t) (k := k) (by omega) hk
  have := Nat.div_le_self t (2 ^ k)
  rw [i5]
  generalize t / 2 ^ k = q at *
  rw [w64n (by omega) (by omega)]
  omega
theorem w32_127 {t : Nat} : ian (w32 (t : Int)) 127 = ((t % 128 : Nat) : Int) := by
  unfold ian w32
  rw [Int32.ofInt_toInt]
  refine ti32 (n := t % 128) ?_ (by omega)
  apply BitVec.eq_of_toNat_eq
  show ((BitVec.ofNat 32 t) &&& (BitVec.ofNat 32 127)).toNat = _
  rw [BitVec.toNat_and, BitVec.toNat_ofNat, BitVec.toNat_ofNat, BitVec.toNat_ofNat, show 127 % 2 ^ 32 = 2 ^ 7 - 1 from rfl, Nat.and_two_pow_sub_one_eq_mod]
  omega
theorem c_Lo_bitCount {d : Nat} {m : Mm} {x : Int} (hx : 0 ≤ x ∧ x < 1099511627776) : Cl d k_Lo_bitCount [(1, x)] m (some (0, (pc_ 64 x.toNat : Nat)), m) := by
  obtain ⟨n, rfl⟩ := Int.eq_ofNat_of_zero_le hx.1
  have hn : n < 1099511627776 := by omega
  refine cl_Lo_bitCount (b_Lo_bitCount ?_)
  have b0 := bl_1 hn
  have b1 : q1 8 n < 1099511627776 := by omega
  have hT := qT8 (n := n) hn
  have p0 := pc_le 8 (n % 256)
  have p1 := pc_le 8 (n / 256 % 256)
  have p2 := pc_le 8 (n / 65536 % 256)
  have p3 := pc_le 8 (n / 16777216 % 256)
  have p4 := pc_le 8 (n / 4294967296)
  have hp : pc_ 64 n = pc_ 8 (n % 256) + (pc_ 8 (n / 256 % 256) + (pc_ 8 (n / 65536 % 256) + (pc_ 8 (n / 16777216 % 256) + pc_ 8 (n / 4294967296)))) := by
    rw [pc64, show n / 4294967296 % 256 = n / 4294967296 by omega, show n / 1099511627776 = 0 by omega, show n / 281474976710656 = 0 by omega, show n / 72057594037927936 = 0 by omega]
    rfl
  have hq : q3 8 (q2 8 (q1 8 n)) = qT 8 n := rfl
  rw [b0.1, (bl_2 b1).1, bl_3 (bl_2 b1).2, hq]
  clear b0 b1 hq
  rw [Int.toNat_natCast]
  generalize qT 8 n = t at *
  generalize pc_ 64 n = w at *
  generalize pc_ 8 (n % 256) = u0 at *
  generalize pc_ 8 (n / 256 % 256) = u1 at *
  generalize pc_ 8 (n / 65536 % 256) = u2 at *
  generalize pc_ 8 (n / 16777216 % 256) = u3 at *
  generalize pc_ 8 (n / 4294967296) = u4 at *
  have d1 : t / 2 ^ 8 = u1 + 256 * u2 + 65536 * u3 + 16777216 * u4 := by omega
  have d2 : (t + t / 2 ^ 8) / 2 ^ 16 = u2 + u3 + 256 * (u3 + u4) + 65536 * u4 := by rw [d1]; omega
  have d3 : (t + t / 2 ^ 8 + (t + t / 2 ^ 8) / 2 ^ 16) / 2 ^ 32 = u4 := by rw [d2, d1]; omega
  have s1 : w64 ((t : Int) + lus (t : Int) 8) = ((t + t / 2 ^ 8 : Nat) : Int) := bl_s (k := 8) (by omega) (by omega)
  have s2 : w64 (((t + t / 2 ^ 8 : Nat) : Int) + lus ((t + t / 2 ^ 8 : Nat) : Int) 16) = ((t + t / 2 ^ 8 + (t + t / 2 ^ 8) / 2 ^ 16 : Nat) : Int) := bl_s (k := 16) (by omega) (by omega)
  have s3 : w64 (((t + t / 2 ^ 8 + (t + t / 2 ^ 8) / 2 ^ 16 : Nat) : Int) + lus ((t + t / 2 ^ 8 + (t + t / 2 ^ 8) / 2 ^ 16 : Nat) : Int) 32) = ((t + t / 2 ^ 8 + (t + t / 2 ^ 8) / 2 ^ 16 + (t + t / 2 ^ 8 + (t + t / 2 ^ 8) / 2 ^ 16) / 2 ^ 32 : Nat) : Int) := bl_s (k := 32) (by omega) (by omega)
  have e : (t + t / 2 ^ 8 + (t + t / 2 ^ 8) / 2 ^ 16 + (t + t / 2 ^ 8 + (t + t / 2 ^ 8) / 2 ^ 16) / 2 ^ 32) % 128 = w := by
    rw [d3, d2, d1]
    omega
  rw [s1, s2, s3, w32_127, e]
/-- the hedges of a land: those to the east and those to the south -/
theorem pc_two {e s : Nat} (he : e < 1048576) (hs : s < 1048576) : pc_ 64 (e + 1048576 * s) = pc_ 32 e + pc_ 32 s := by
  rw [show (64 : Nat) = 20 + 44 from rfl, pc_add 20 44, show (32 : Nat) = 20 + 12 from rfl, pc_ext 20 12 (by omega), show (44 : Nat) = 20 + 24 from rfl, show (2 : Nat) ^ 20 = 1048576 from rfl, show (e + 1048576 * s) % 1048576 = e by omega, show (e + 1048576 * s) / 1048576 = s by omega, pc_ext 20 24 (by omega), pc_ext 20 12 (by omega)]
