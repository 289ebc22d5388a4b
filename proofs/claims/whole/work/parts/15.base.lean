/-! PURE BASE: numbers -/
theorem w32n {x : Int} (h1 : -2147483648 ≤ x) (h2 : x ≤ 2147483647) : w32 x = x := w32_of ⟨h1, h2⟩
theorem w64n {x : Int} (h1 : -9223372036854775808 ≤ x) (h2 : x ≤ 9223372036854775807) : w64 x = x := w64_of ⟨h1, h2⟩
theorem idv_n {a b : Int} (ha : 0 ≤ a) (ha2 : a ≤ 2147483647) (hb : 0 < b) (hb2 : b ≤ 2147483647) : idv a b = a / b := by
  have e1 : (Int32.ofInt a).toInt = a := i32_of ⟨by omega, ha2⟩
  have e2 : (Int32.ofInt b).toInt = b := i32_of ⟨by omega, hb2⟩
  unfold idv
  rw [Int32.toInt_div, e1, e2, Int.tdiv_eq_ediv_of_nonneg ha]
  have h0 : 0 ≤ a / b := Int.ediv_nonneg ha (by omega)
  have h1 : a / b ≤ a := Int.ediv_le_self _ ha
  rw [Int.bmod_eq_of_le] <;> omega
theorem irm_n {a b : Int} (ha : 0 ≤ a) (ha2 : a ≤ 2147483647) (hb : 0 < b) (hb2 : b ≤ 2147483647) : irm a b = a % b := by
  have e1 : (Int32.ofInt a).toInt = a := i32_of ⟨by omega, ha2⟩
  have e2 : (Int32.ofInt b).toInt = b := i32_of ⟨by omega, hb2⟩
  have e3 : (Int32.ofInt a / Int32.ofInt b).toInt = a / b := idv_n ha ha2 hb hb2
  have h0 : 0 ≤ a / b := Int.ediv_nonneg ha (by omega)
  have h3 : a / b * b ≤ a := Int.ediv_mul_le _ (by omega)
  have h4 : 0 ≤ a / b * b := Int.mul_nonneg h0 (by omega)
  unfold irm
  rw [Int32.toInt_sub, Int32.toInt_mul, e1, e3, e2]
  rw [Int.bmod_eq_of_le (n := a / b * b) (by omega) (by omega)]
  have h5 : a - a / b * b = a % b := by rw [Int.emod_def, Int.mul_comm]
  rw [h5]
  have h6 := Int.emod_nonneg a (b := b) (by omega)
  have h7 := Int.emod_lt_of_pos a hb
  rw [Int.bmod_eq_of_le] <;> omega
/-! bits: numbers that are not negative, as Nat -/
theorem tb32 {n : Nat} (h : n < 2147483648) : (Int32.ofInt (n : Int)).toBitVec = BitVec.ofNat 32 n := rfl
theorem ti32 {n : Nat} {x : Int32} (h : x.toBitVec = BitVec.ofNat 32 n) (hn : n < 2147483648) : x.toInt = n := by
  have : x = Int32.ofInt (n : Int) := Int32.toBitVec_inj.mp h
  rw [this]
  exact i32_of ⟨by omega, by omega⟩
theorem ti64 {n : Nat} {x : Int64} (h : x.toBitVec = BitVec.ofNat 64 n) (hn : n < 9223372036854775808) : x.toInt = n := by
  have : x = Int64.ofInt (n : Int) := Int64.toBitVec_inj.mp h
  rw [this]
  exact i64_of ⟨by omega, by omega⟩
theorem ian_nat {a b : Nat} (ha : a < 2147483648) (hb : b < 2147483648) : ian a b = ((a &&& b : Nat) : Int) := by
  refine ti32 ?_ (Nat.lt_of_le_of_lt Nat.and_le_left ha)
  rw [Int32.toBitVec_and]
  show BitVec.ofNat 32 a &&& BitVec.ofNat 32 b = _
  apply BitVec.eq_of_toNat_eq
  simp only [BitVec.toNat_and, BitVec.toNat_ofNat]
  rw [Nat.mod_eq_of_lt (by omega), Nat.mod_eq_of_lt (by omega), Nat.mod_eq_of_lt (Nat.lt_of_le_of_lt Nat.and_le_left (by omega))]
theorem or_lt {a b k : Nat} (ha : a < 2 ^ k) (hb : b < 2 ^ k) : a ||| b < 2 ^ k := Nat.or_lt_two_pow ha hb
theorem xor_lt {a b k : Nat} (ha : a < 2 ^ k) (hb : b < 2 ^ k) : a ^^^ b < 2 ^ k := Nat.xor_lt_two_pow ha hb
theorem iro_nat {a b : Nat} (ha : a < 2147483648) (hb : b < 2147483648) : iro a b = ((a ||| b : Nat) : Int) := by
  have hlt : a ||| b < 2147483648 := or_lt (k := 31) ha hb
  refine ti32 ?_ hlt
  rw [Int32.toBitVec_or]
  show BitVec.ofNat 32 a ||| BitVec.ofNat 32 b = _
  apply BitVec.eq_of_toNat_eq
  simp only [BitVec.toNat_or, BitVec.toNat_ofNat]
  rw [Nat.mod_eq_of_lt (by omega), Nat.mod_eq_of_lt (by omega), Nat.mod_eq_of_lt (by omega)]
theorem ixo_nat {a b : Nat} (ha : a < 2147483648) (hb : b < 2147483648) : ixo a b = ((a ^^^ b : Nat) : Int) := by
  have hlt : a ^^^ b < 2147483648 := xor_lt (k := 31) ha hb
  refine ti32 ?_ hlt
  rw [Int32.toBitVec_xor]
  show BitVec.ofNat 32 a ^^^ BitVec.ofNat 32 b = _
  apply BitVec.eq_of_toNat_eq
  simp only [BitVec.toNat_xor, BitVec.toNat_ofNat]
  rw [Nat.mod_eq_of_lt (by omega), Nat.mod_eq_of_lt (by omega), Nat.mod_eq_of_lt (by omega)]
theorem lan_nat {a b : Nat} (ha : a < 9223372036854775808) (hb : b < 9223372036854775808) : lan a b = ((a &&& b : Nat) : Int) := by
  refine ti64 ?_ (Nat.lt_of_le_of_lt Nat.and_le_left ha)
  rw [Int64.toBitVec_and]
  show BitVec.ofNat 64 a &&& BitVec.ofNat 64 b = _
  apply BitVec.eq_of_toNat_eq
  simp only [BitVec.toNat_and, BitVec.toNat_ofNat]
  rw [Nat.mod_eq_of_lt (by omega), Nat.mod_eq_of_lt (by omega), Nat.mod_eq_of_lt (Nat.lt_of_le_of_lt Nat.and_le_left (by omega))]
theorem lro_nat {a b : Nat} (ha : a < 9223372036854775808) (hb : b < 9223372036854775808) : lro a b = ((a ||| b : Nat) : Int) := by
  have hlt : a ||| b < 9223372036854775808 := or_lt (k := 63) ha hb
  refine ti64 ?_ hlt
  rw [Int64.toBitVec_or]
  show BitVec.ofNat 64 a ||| BitVec.ofNat 64 b = _
  apply BitVec.eq_of_toNat_eq
  simp only [BitVec.toNat_or, BitVec.toNat_ofNat]
  rw [Nat.mod_eq_of_lt (by omega), Nat.mod_eq_of_lt (by omega), Nat.mod_eq_of_lt (by omega)]
theorem lxo_nat {a b : Nat} (ha : a < 9223372036854775808) (hb : b < 9223372036854775808) : lxo a b = ((a ^^^ b : Nat) : Int) := by
  have hlt : a ^^^ b < 9223372036854775808 := xor_lt (k := 63) ha hb
  refine ti64 ?_ hlt
  rw [Int64.toBitVec_xor]
  show BitVec.ofNat 64 a ^^^ BitVec.ofNat 64 b = _
  apply BitVec.eq_of_toNat_eq
  simp only [BitVec.toNat_xor, BitVec.toNat_ofNat]
  rw [Nat.mod_eq_of_lt (by omega), Nat.mod_eq_of_lt (by omega), Nat.mod_eq_of_lt (by omega)]
theorem sh32 : ∀ n, n < 32 → ((Int32.ofInt ((n : Nat) : Int) &&& 31).toBitVec.smod 32).toNat = n := by decide +kernel
theorem su32 : ∀ n, n < 32 → (((Int32.ofInt ((n : Nat) : Int)).toUInt32 &&& Int32.toUInt32 31).toBitVec % 32).toNat = n := by decide +kernel
theorem isr_nat {a k : Nat} (ha : a < 2147483648) (hk : k < 32) : isr a k = ((a / 2 ^ k : Nat) : Int) := by
  unfold isr
  rw [pk_shr (Int32.ofInt a) _ k (sh32 k hk), i32_of ⟨by omega, by omega⟩]
  rw [Int.shiftRight_eq_div_pow]
  rfl
theorem isl_nat {a k : Nat} (hk : k < 32) (h : a * 2 ^ k < 2147483648) : isl a k = ((a * 2 ^ k : Nat) : Int) := by
  unfold isl
  have := pk_shlN (n := a) (Int32.ofInt ((k : Nat) : Int) &&& 31) k (sh32 k hk) (by omega)
  rw [show Int32.ofInt ((a : Nat) : Int) = nI a from rfl, this]
  exact i32_of (x := ((a * 2 ^ k : Nat) : Int)) ⟨by omega, by omega⟩
theorem c64 : ∀ k, k < 64 → ((Int32.ofInt ((k : Nat) : Int)).toInt64 &&& 63) = Int64.ofInt ((k : Nat) : Int) := by decide +kernel
theorem sm64 : ∀ k, k < 64 → ((BitVec.ofNat 64 k).smod 64) = BitVec.ofNat 64 k := by decide +kernel
theorem lsl_nat {a k : Nat} (hk : k < 64) (h : a * 2 ^ k < 9223372036854775808) : lsl a k = ((a * 2 ^ k : Nat) : Int) := by
  unfold lsl
  rw [c64 k hk]
  refine ti64 ?_ h
  rw [Int64.toBitVec_shiftLeft]
  show BitVec.ofNat 64 a <<< ((BitVec.ofNat 64 k).smod 64) = _
  rw [sm64 k hk]
  apply BitVec.eq_of_toNat_eq
  rw [BitVec.shiftLeft_eq', BitVec.toNat_shiftLeft]
  simp only [BitVec.toNat_ofNat]
  rw [Nat.mod_eq_of_lt (show k < 2 ^ 64 by omega), Nat.shiftLeft_eq, Nat.mod_mul_mod]
theorem lsr_nat {a k : Nat} (ha : a < 9223372036854775808) (hk : k < 64) : lsr a k = ((a / 2 ^ k : Nat) : Int) := by
  unfold lsr
  rw [c64 k hk]
  have hq : a / 2 ^ k < 9223372036854775808 := Nat.lt_of_le_of_lt (Nat.div_le_self _ _) ha
  refine ti64 ?_ hq
  rw [Int64.toBitVec_shiftRight]
  show (BitVec.ofNat 64 a).sshiftRight' ((BitVec.ofNat 64 k).smod 64) = _
  rw [sm64 k hk]
  apply BitVec.eq_of_toInt_eq
  rw [BitVec.sshiftRight_eq', BitVec.toInt_sshiftRight]
  simp only [BitVec.toNat_ofNat]
  rw [Nat.mod_eq_of_lt (show k < 2 ^ 64 by omega)]
  have e1 : (BitVec.ofNat 64 a).toInt = a := by
    rw [BitVec.toInt_eq_toNat_of_lt (by simp only [BitVec.toNat_ofNat]; omega)]
    simp only [BitVec.toNat_ofNat]
    omega
  have e2 : (BitVec.ofNat 64 (a / 2 ^ k)).toInt = ((a / 2 ^ k : Nat) : Int) := by
    generalize a / 2 ^ k = q at hq ⊢
    rw [BitVec.toInt_eq_toNat_of_lt (by simp only [BitVec.toNat_ofNat]; omega)]
    simp only [BitVec.toNat_ofNat]
    omega
  rw [e1, e2, Int.shiftRight_eq_div_pow]
  rfl
/-! a bit of a number -/
def bt_ (x : Int) (k : Int) : Bool := x.toNat.testBit k.toNat
theorem bit32 {x k : Int} (hx : 0 ≤ x ∧ x < 2147483648) (hk : 0 ≤ k ∧ k < 32) : ian (isr x k) 1 = if bt_ x k then 1 else 0 := by
  obtain ⟨n, rfl⟩ := Int.eq_ofNat_of_zero_le hx.1
  obtain ⟨j, rfl⟩ := Int.eq_ofNat_of_zero_le hk.1
  have h1 : n < 2147483648 := by omega
  rw [isr_nat h1 (by omega)]
  have := ian_nat (a := n / 2 ^ j) (b := 1) (Nat.lt_of_le_of_lt (Nat.div_le_self _ _) h1) (by omega)
  rw [show ((1 : Nat) : Int) = 1 from rfl] at this
  rw [this, Nat.and_one_is_mod]
  show _ = if n.testBit j = true then (1 : Int) else 0
  rw [Nat.testBit_eq_decide_div_mod_eq]
  have h2 := Nat.mod_two_eq_zero_or_one (n / 2 ^ j)
  by_cases h : n / 2 ^ j % 2 = 1
  · simp [h]
  · have : n / 2 ^ j % 2 = 0 := by omega
    simp [this]
theorem bit64 {x k : Int} (hx : 0 ≤ x ∧ x < 9223372036854775808) (hk : 0 ≤ k ∧ k < 64) : lan (lsr x k) 1 = if bt_ x k then 1 else 0 := by
  obtain ⟨n, rfl⟩ := Int.eq_ofNat_of_zero_le hx.1
  obtain ⟨j, rfl⟩ := Int.eq_ofNat_of_zero_le hk.1
  have h1 : n < 9223372036854775808 := by omega
  rw [lsr_nat h1 (by omega)]
  have := lan_nat (a := n / 2 ^ j) (b := 1) (Nat.lt_of_le_of_lt (Nat.div_le_self _ _) h1) (by omega)
  rw [show ((1 : Nat) : Int) = 1 from rfl] at this
  rw [this, Nat.and_one_is_mod]
  show _ = if n.testBit j = true then (1 : Int) else 0
  rw [Nat.testBit_eq_decide_div_mod_eq]
  have h2 := Nat.mod_two_eq_zero_or_one (n / 2 ^ j)
  by_cases h : n / 2 ^ j % 2 = 1
  · simp [h]
  · have : n / 2 ^ j % 2 = 0 := by omega
    simp [this]
