/-! HOW MANY BITS -/
def pc_ : Nat → Nat → Nat
  | 0, _ => 0
  | k + 1, n => n % 2 + pc_ k (n / 2)
def rep (c : Nat) : Nat → Nat
  | 0 => 0
  | n + 1 => 256 * rep c n + c
theorem andp (k : Nat) {a b c d : Nat} (hb : b < 2 ^ k) (hd : d < 2 ^ k) : (2 ^ k * a + b) &&& (2 ^ k * c + d) = 2 ^ k * (a &&& c) + (b &&& d) := by
  have hbd : b &&& d < 2 ^ k := Nat.lt_of_le_of_lt Nat.and_le_left hb
  apply Nat.eq_of_testBit_eq
  intro i
  rw [Nat.testBit_and]
  by_cases hi : i < k
  · have e : ∀ {p q : Nat}, q < 2 ^ k → (2 ^ k * p + q).testBit i = q.testBit i := fun {p q} hq => by
      rw [Nat.testBit_two_pow_mul_add _ hq, if_pos hi]
    rw [e hb, e hd, e hbd, Nat.testBit_and]
  · have e : ∀ {p q : Nat}, q < 2 ^ k → (2 ^ k * p + q).testBit i = p.testBit (i - k) := fun {p q} hq => by
      rw [Nat.testBit_two_pow_mul_add _ hq, if_neg hi]
    rw [e hb, e hd, e hbd, Nat.testBit_and]
theorem and256 {a b c d : Nat} (hb : b < 256) (hd : d < 256) : (256 * a + b) &&& (256 * c + d) = 256 * (a &&& c) + (b &&& d) := andp 8 hb hd
theorem and2 {a b c d : Nat} (hb : b < 2) (hd : d < 2) : (2 * a + b) &&& (2 * c + d) = 2 * (a &&& c) + (b &&& d) := andp 1 hb hd
def q1 (n x : Nat) : Nat := x - (x / 2 &&& rep 85 n)
def q2 (n y : Nat) : Nat := (y &&& rep 51 n) + (y / 4 &&& rep 51 n)
def q3 (n z : Nat) : Nat := (z + z / 16) &&& rep 15 n
theorem q1_d : ∀ b, b < 256 → ((128 + b / 2) &&& 85 = b / 2 &&& 85) := by decide +kernel
theorem q2_d : ∀ b, b < 256 → ∀ r, r < 4 → ((64 * r + b / 4) &&& 51 = b / 4 &&& 51) := by decide +kernel
theorem q1_byte (n a : Nat) {b : Nat} (hb : b < 256) : q1 (n + 1) (256 * a + b) = 256 * q1 n a + q1 1 b := by
  unfold q1
  have e1 : (256 * a + b) / 2 = 256 * (a / 2) + (128 * (a % 2) + b / 2) := by omega
  have e2 : rep 85 (n + 1) = 256 * rep 85 n + 85 := rfl
  have e3 : rep 85 1 = 85 := rfl
  rw [e1, e2, e3, and256 (by omega) (by omega)]
  have e4 : (128 * (a % 2) + b / 2) &&& 85 = b / 2 &&& 85 := by
    rcases Nat.mod_two_eq_zero_or_one a with h | h
    · rw [h, Nat.mul_zero, Nat.zero_add]
    · rw [h, Nat.mul_one]; exact q1_d b hb
  rw [e4]
  have h1 : a / 2 &&& rep 85 n ≤ a / 2 := Nat.and_le_left
  have h2 : b / 2 &&& 85 ≤ b / 2 := Nat.and_le_left
  omega
theorem q2_byte (n a : Nat) {b : Nat} (hb : b < 256) : q2 (n + 1) (256 * a + b) = 256 * q2 n a + q2 1 b := by
  unfold q2
  have e1 : (256 * a + b) / 4 = 256 * (a / 4) + (64 * (a % 4) + b / 4) := by omega
  have e2 : rep 51 (n + 1) = 256 * rep 51 n + 51 := rfl
  have e3 : rep 51 1 = 51 := rfl
  rw [e1, e2, e3, and256 (a := a) hb (by omega), and256 (a := a / 4) (by omega) (by omega), q2_d b hb (a % 4) (by omega)]
  omega
theorem q3_byte (n a : Nat) {b : Nat} (hb : b % 16 ≤ 4 ∧ b / 16 ≤ 4) (ha : a % 16 ≤ 4) : q3 (n + 1) (256 * a + b) = 256 * q3 n a + q3 1 b := by
  unfold q3
  have e1 : 256 * a + b + (256 * a + b) / 16 = 256 * (a + a / 16) + (b + 16 * (a % 16) + b / 16) := by omega
  have e2 : rep 15 (n + 1) = 256 * rep 15 n + 15 := rfl
  have e3 : rep 15 1 = 15 := rfl
  rw [e1, e2, e3, and256 (by omega) (by omega)]
  have e4 : ∀ x : Nat, x &&& 15 = x % 16 := fun x => Nat.and_two_pow_sub_one_eq_mod x 4
  rw [e4, e4]
  omega
theorem byte_1 : ∀ b, b < 256 → q1 1 b < 256 ∧ q2 1 (q1 1 b) < 256 ∧ q2 1 (q1 1 b) % 16 ≤ 4 ∧ q2 1 (q1 1 b) / 16 ≤ 4 ∧ q3 1 (q2 1 (q1 1 b)) = pc_ 8 b := by decide +kernel
/-- the first three steps, byte by byte -/
def qT (n x : Nat) : Nat := q3 n (q2 n (q1 n x))
theorem low_nib : ∀ (n x : Nat), x < 256 ^ n → q2 n (q1 n x) % 16 ≤ 4 := by
  intro n x hx
  cases n with
  | zero =>
    have : x = 0 := by simpa using hx
    subst this
    decide
  | succ n =>
    have hb : x % 256 < 256 := by omega
    have e : x = 256 * (x / 256) + x % 256 := by omega
    rw [e, q1_byte n _ hb]
    obtain ⟨b1, b2, b3, b4, b5⟩ := byte_1 _ hb
    rw [q2_byte n _ b1]
    omega
theorem qT_byte (n a : Nat) {b : Nat} (hb : b < 256) (ha : a < 256 ^ n) : qT (n + 1) (256 * a + b) = 256 * qT n a + pc_ 8 b := by
  obtain ⟨b1, b2, b3, b4, b5⟩ := byte_1 _ hb
  unfold qT
  rw [q1_byte n a hb, q2_byte n _ b1, q3_byte n _ ⟨b3, b4⟩ (low_nib n a ha), b5]
theorem pc_le : ∀ k n, pc_ k n ≤ k := by
  intro k
  induction k with
  | zero => intro n; exact Nat.le_refl _
  | succ k ih =>
    intro n
    have := ih (n / 2)
    unfold pc_
    omega
theorem pc_add : ∀ (j k n : Nat), pc_ (j + k) n = pc_ j (n % 2 ^ j) + pc_ k (n / 2 ^ j) := by
  intro j
  induction j with
  | zero => intro k n; simp [pc_]
  | succ j ih =>
    intro k n
    rw [show j + 1 + k = (j + k) + 1 by omega]
    show n % 2 + pc_ (j + k) (n / 2) = (n % 2 ^ (j + 1) % 2 + pc_ j (n % 2 ^ (j + 1) / 2)) + pc_ k (n / 2 ^ (j + 1))
    rw [ih k (n / 2)]
    have e1 : n % 2 ^ (j + 1) % 2 = n % 2 := by rw [Nat.pow_succ, Nat.mul_comm]; exact Nat.mod_mul_right_mod n 2 (2 ^ j)
    have e2 : n % 2 ^ (j + 1) / 2 = n / 2 % 2 ^ j := by rw [Nat.pow_succ, Nat.mul_comm]; exact Nat.mod_mul_right_div_self n 2 (2 ^ j)
    have e3 : n / 2 / 2 ^ j = n / 2 ^ (j + 1) := by rw [Nat.div_div_eq_div_mul, Nat.pow_succ, Nat.mul_comm]
    rw [e1, e2, e3]
    omega
theorem ius_nat {a k : Nat} (ha : a < 2147483648) (hk : k < 32) : ius a k = ((a / 2 ^ k : Nat) : Int) := by
  unfold ius
  have := pk_ushrN (n := a) (by omega) (Int32.ofInt ((k : Nat) : Int)) k (su32 k hk)
  rw [show Int32.ofInt ((a : Nat) : Int) = nI a from rfl, this]
  have hq : a / 2 ^ k < 2147483648 := Nat.lt_of_le_of_lt (Nat.div_le_self _ _) ha
  generalize a / 2 ^ k = q at hq ⊢
  exact i32_of (x := (q : Int)) ⟨by omega, by omega⟩
theorem cu64 : ∀ k, k < 64 → ((Int32.ofInt ((k : Nat) : Int)).toInt64.toUInt64 &&& Int64.toUInt64 63) = UInt64.ofNat k := by decide +kernel
theorem lus_nat {a k : Nat} (ha : a < 9223372036854775808) (hk : k < 64) : lus a k = ((a / 2 ^ k : Nat) : Int) := by
  unfold lus
  rw [cu64 k hk]
  have hq : a / 2 ^ k < 9223372036854775808 := Nat.lt_of_le_of_lt (Nat.div_le_self _ _) ha
  refine ti64 ?_ hq
  show ((Int64.ofInt (a : Int)).toUInt64 >>> UInt64.ofNat k).toBitVec = _
  apply BitVec.eq_of_toNat_eq
  rw [show ((Int64.ofInt (a : Int)).toUInt64 >>> UInt64.ofNat k).toBitVec.toNat = ((Int64.ofInt (a : Int)).toUInt64 >>> UInt64.ofNat k).toNat from rfl, UInt64.toNat_shiftRight]
  rw [show (UInt64.ofNat k).toNat % 64 = k by rw [UInt64.toNat_ofNat']; omega]
  rw [show (Int64.ofInt (a : Int)).toUInt64.toNat = a % 18446744073709551616 from rfl]
  rw [Nat.shiftRight_eq_div_pow, Nat.mod_eq_of_lt (show a < 18446744073709551616 by omega), BitVec.toNat_ofNat]
  generalize a / 2 ^ k = q at hq ⊢
  omega
theorem rep_v : rep 85 4 = 1431655765 ∧ rep 51 4 = 858993459 ∧ rep 15 4 = 252645135 ∧ rep 85 8 = 6148914691236517205 ∧ rep 51 8 = 3689348814741910323 ∧ rep 15 8 = 1085102592571150095 := by decide +kernel
theorem qT4 {n : Nat} (h : n < 4294967296) : qT 4 n = pc_ 8 (n % 256) + 256 * pc_ 8 (n / 256 % 256) + 65536 * pc_ 8 (n / 65536 % 256) + 16777216 * pc_ 8 (n / 16777216) := by
  have e0 : n = 256 * (n / 256) + n % 256 := by omega
  have e1 : n / 256 = 256 * (n / 65536) + n / 256 % 256 := by omega
  have e2 : n / 65536 = 256 * (n / 16777216) + n / 65536 % 256 := by omega
  have e3 : n / 16777216 = 256 * 0 + n / 16777216 := by omega
  have z : qT 0 0 = 0 := by decide
  have h3 : qT 1 (256 * 0 + n / 16777216) = 256 * qT 0 0 + pc_ 8 (n / 16777216) := qT_byte 0 0 (b := n / 16777216) (by omega) (by decide)
  rw [← e3] at h3
  have h2 : qT 2 (256 * (n / 16777216) + n / 65536 % 256) = 256 * qT 1 (n / 16777216) + pc_ 8 (n / 65536 % 256) := qT_byte 1 (n / 16777216) (b := n / 65536 % 256) (by omega) (by omega)
  rw [← e2] at h2
  have h1 : qT 3 (256 * (n / 65536) + n / 256 % 256) = 256 * qT 2 (n / 65536) + pc_ 8 (n / 256 % 256) := qT_byte 2 (n / 65536) (b := n / 256 % 256) (by omega) (by omega)
  rw [← e1] at h1
  have h0 : qT 4 (256 * (n / 256) + n % 256) = 256 * qT 3 (n / 256) + pc_ 8 (n % 256) := qT_byte 3 (n / 256) (b := n % 256) (by omega) (by omega)
  rw [← e0] at h0
  rw [h0, h1, h2, h3, z]
  omega
theorem pc32 {n : Nat} : pc_ 32 n = pc_ 8 (n % 256) + (pc_ 8 (n / 256 % 256) + (pc_ 8 (n / 65536 % 256) + pc_ 8 (n / 16777216))) := by
  rw [show (32 : Nat) = 8 + 24 from rfl, pc_add 8 24, show (24 : Nat) = 8 + 16 from rfl, pc_add 8 16, show (16 : Nat) = 8 + 8 from rfl, pc_add 8 8]
  rw [show (2 : Nat) ^ 8 = 256 from rfl, Nat.div_div_eq_div_mul, Nat.div_div_eq_div_mul]
theorem bc_1 {n : Nat} (hn : n < 2147483648) : w32 ((n : Int) - ian (ius (n : Int) 1) 1431655765) = ((q1 4 n : Nat) : Int) := by
  have i1 : ius (n : Int) 1 = ((n / 2 : Nat) : Int) := ius_nat (a := n) (k := 1) hn (by omega)
  have a1 : ian ((n / 2 : Nat) : Int) 1431655765 = ((n / 2 &&& 1431655765 : Nat) : Int) := ian_nat (a := n / 2) (b := 1431655765) (by omega) (by omega)
  have l1 : n / 2 &&& 1431655765 ≤ n / 2 := Nat.and_le_left
  rw [i1, a1, w32n (by omega) (by omega)]
  unfold q1
  rw [rep_v.1]
  omega
theorem bc_2 {y : Nat} (hy : y < 2147483648) : w32 (ian (y : Int) 858993459 + ian (ius (y : Int) 2) 858993459) = ((q2 4 y : Nat) : Int) ∧ q2 4 y ≤ 1717986918 := by
  have a2 : ian (y : Int) 858993459 = ((y &&& 858993459 : Nat) : Int) := ian_nat (a := y) (b := 858993459) hy (by omega)
  have i2 : ius (y : Int) 2 = ((y / 4 : Nat) : Int) := ius_nat (a := y) (k := 2) hy (by omega)
  have a3 : ian ((y / 4 : Nat) : Int) 858993459 = ((y / 4 &&& 858993459 : Nat) : Int) := ian_nat (a := y / 4) (b := 858993459) (by omega) (by omega)
  have l2 : y &&& 858993459 ≤ 858993459 := Nat.and_le_right
  have l3 : y / 4 &&& 858993459 ≤ 858993459 := Nat.and_le_right
  unfold q2
  rw [rep_v.2.1, a2, i2, a3]
  generalize y &&& 858993459 = u at *
  generalize y / 4 &&& 858993459 = v at *
  refine ⟨?_, by omega⟩
  rw [w32n (by omega) (by omega)]
  omega
theorem bc_3 {z : Nat} (hz : z ≤ 1717986918) : ian (w32 ((z : Int) + ius (z : Int) 4)) 252645135 = ((q3 4 z : Nat) : Int) := by
  have i3 : ius (z : Int) 4 = ((z / 16 : Nat) : Int) := ius_nat (a := z) (k := 4) (by omega) (by omega)
  have a4 : ian ((z + z / 16 : Nat) : Int) 252645135 = ((z + z / 16 &&& 252645135 : Nat) : Int) := ian_nat (a := z + z / 16) (b := 252645135) (by omega) (by omega)
  have e : w32 ((z : Int) + ((z / 16 : Nat) : Int)) = ((z + z / 16 : Nat) : Int) := by rw [w32n (by omega) (by omega)]; omega
  unfold q3
  rw [rep_v.2.2.1, i3, e, a4]
theorem bc_45 {t : Nat} (ht : t < 200000000) : ian (w32 (w32 ((t : Int) + ius (t : Int) 8) + ius (w32 ((t : Int) + ius (t : Int) 8)) 16)) 63 = (((t + t / 256 + (t + t / 256) / 65536) % 64 : Nat) : Int) := by
  have i5 : ius (t : Int) 8 = ((t / 256 : Nat) : Int) := ius_nat (a := t) (k := 8) (by omega) (by omega)
  have e5 : w32 ((t : Int) + ((t / 256 : Nat) : Int)) = ((t + t / 256 : Nat) : Int) := by rw [w32n (by omega) (by omega)]; omega
  have i6 : ius ((t + t / 256 : Nat) : Int) 16 = (((t + t / 256) / 65536 : Nat) : Int) := ius_nat (a := t + t / 256) (k := 16) (by omega) (by omega)
  have e6 : w32 (((t + t / 256 : Nat) : Int) + (((t + t / 256) / 65536 : Nat) : Int)) = ((t + t / 256 + (t + t / 256) / 65536 : Nat) : Int) := by rw [w32n (by omega) (by omega)]; omega
  have a6 : ian ((t + t / 256 + (t + t / 256) / 65536 : Nat) : Int) 63 = ((t + t / 256 + (t + t / 256) / 65536 &&& 63 : Nat) : Int) := ian_nat (b := 63) (by omega) (by omega)
  rw [i5, e5, i6, e6, a6, Nat.and_two_pow_sub_one_eq_mod _ 6]
theorem c_In_bitCount {d : Nat} {m : Mm} {x : Int} (hx : 0 ≤ x ∧ x < 2147483648) : Cl d k_In_bitCount [(0, x)] m (some (0, (pc_ 32 x.toNat : Nat)), m) := by
  obtain ⟨n, rfl⟩ := Int.eq_ofNat_of_zero_le hx.1
  have hn : n < 2147483648 := by omega
  refine cl_In_bitCount (b_In_bitCount ?_)
  have b1 : q1 4 n < 2147483648 := by unfold q1; omega
  have hT := qT4 (n := n) (by omega)
  have p0 := pc_le 8 (n % 256)
  have p1 := pc_le 8 (n / 256 % 256)
  have p2 := pc_le 8 (n / 65536 % 256)
  have p3 := pc_le 8 (n / 16777216)
  have hp := pc32 (n := n)
  have hq : q3 4 (q2 4 (q1 4 n)) = qT 4 n := rfl
  rw [bc_1 hn, (bc_2 b1).1, bc_3 (bc_2 b1).2, hq]
  generalize qT 4 n = t at *
  generalize pc_ 8 (n % 256) = u0 at *
  generalize pc_ 8 (n / 256 % 256) = u1 at *
  generalize pc_ 8 (n / 65536 % 256) = u2 at *
  generalize pc_ 8 (n / 16777216) = u3 at *
  have e : (t + t / 256 + (t + t / 256) / 65536) % 64 = pc_ 32 n := by
    rw [hp]
    have d1 : t / 256 = u1 + 256 * u2 + 65536 * u3 := by omega
    have d2 : (t + t / 256) / 65536 = u2 + u3 + 256 * u3 := by rw [d1]; omega
    rw [d2, d1]
    omega
  rw [bc_45 (by omega), e]
  rfl
theorem pc_zero : ∀ k, pc_ k 0 = 0 := by
  intro k
  induction k with
  | zero => rfl
  | succ k ih => simp [pc_, ih]
theorem pc_ext (j i : Nat) {n : Nat} (h : n < 2 ^ j) : pc_ (j + i) n = pc_ j n := by
  rw [pc_add, Nat.mod_eq_of_lt h, Nat.div_eq_of_lt h, pc_zero, Nat.add_zero]
theorem pc_drop : ∀ (k n : Nat), 0 < n → n < 2 ^ k → pc_ k (n &&& (n - 1)) + 1 = pc_ k n := by
  intro k
  induction k with
  | zero => intro n h0 h1; simp at h1; omega
  | succ k ih =>
    intro n h0 h1
    rw [Nat.pow_succ] at h1
    rcases Nat.mod_two_eq_zero_or_one n with h | h
    · have e1 : n = 2 * (n / 2) + 0 := by omega
      have e2 : n - 1 = 2 * (n / 2 - 1) + 1 := by omega
      have e3 : n &&& (n - 1) = 2 * (n / 2 &&& (n / 2 - 1)) := by
        rw [e2]
        conv => lhs; lhs; rw [e1]
        rw [and2 (by omega) (by omega)]
        simp
      rw [e3]
      have := ih (n / 2) (by omega) (by omega)
      unfold pc_
      rw [h, Nat.mul_mod_right, Nat.mul_div_cancel_left _ (by omega)]
      omega
    · have e1 : n = 2 * (n / 2) + 1 := by omega
      have e2 : n - 1 = 2 * (n / 2) + 0 := by omega
      have e3 : n &&& (n - 1) = 2 * (n / 2) := by
        rw [e2]
        conv => lhs; lhs; rw [e1]
        rw [and2 (by omega) (by omega), Nat.and_self]
        simp
      rw [e3]
      unfold pc_
      rw [h, Nat.mul_mod_right, Nat.mul_div_cancel_left _ (by omega)]
      omega
theorem c_Mo_bits {d : Nat} {m : Mm} {x : Int} (hx : 0 ≤ x ∧ x < 2147483648) : Cl d k_Mo_bits [(0, x)] m (some (0, (pc_ 32 x.toNat : Nat)), m) := by
  obtain ⟨n, rfl⟩ := Int.eq_ofNat_of_zero_le hx.1
  refine cl_Mo_bits (b_Mo_bits ?_)
  rw [Int.toNat_natCast]
  have hpn := pc_le 32 n
  have key : ∀ (f l c : Nat), l ≤ f → l < 2147483648 → c + pc_ 32 l = pc_ 32 n → Ev d K_Mo_bits 0 4 [(0, (n : Int)), (0, (c : Int)), (0, (l : Int))] [] m (some (0, (pc_ 32 n : Nat)), m) := by
    intro f
    induction f with
    | zero =>
      intro l c h1 h2 h3
      obtain rfl : l = 0 := by omega
      rw [pc_zero] at h3
      refine b_Mo_bits_4 ⟨fun _ => by rw [← h3]; rfl, fun h => absurd rfl h⟩
    | succ f ih =>
      intro l c h1 h2 h3
      refine b_Mo_bits_4 ⟨fun h => ?_, fun h => ?_⟩
      · obtain rfl : l = 0 := by omega
        rw [pc_zero] at h3
        rw [← h3]
        rfl
      · have hl : 0 < l := by omega
        have e1 : w32 ((l : Int) - 1) = ((l - 1 : Nat) : Int) := by rw [w32n (by omega) (by omega)]; omega
        have e2 := ian_nat (a := l) (b := l - 1) h2 (by omega)
        have e3 : w32 ((c : Int) + 1) = ((c + 1 : Nat) : Int) := by rw [w32n (by omega) (by omega)]; rfl
        have h4 : l &&& (l - 1) ≤ l - 1 := Nat.and_le_right
        have h5 := pc_drop 32 l hl (by omega)
        rw [e1, e2, e3]
        exact ih _ _ (by omega) (by omega) (by omega)
  exact key n n 0 (Nat.le_refl _) (by omega) (by omega)

theorem pc64 {n : Nat} : pc_ 64 n = pc_ 8 (n % 256) + (pc_ 8 (n / 256 % 256) + (pc_ 8 (n / 65536 % 256) + (pc_ 8 (n / 16777216 % 256) + (pc_ 8 (n / 4294967296 % 256) + (pc_ 8 (n / 1099511627776 % 256) + (pc_ 8 (n / 281474976710656 % 256) + pc_ 8 (n / 72057594037927936))))))) := by
  rw [show (64 : Nat) = 8 + 56 from rfl, pc_add 8 56, show (56 : Nat) = 8 + 48 from rfl, pc_add 8 48, show (48 : Nat) = 8 + 40 from rfl, pc_add 8 40, show (40 : Nat) = 8 + 32 from rfl, pc_add 8 32, show (32 : Nat) = 8 + 24 from rfl, pc_add 8 24, show (24 : Nat) = 8 + 16 from rfl, pc_add 8 16, show (16 : Nat) = 8 + 8 from rfl, pc_add 8 8]
  rw [show (2 : Nat) ^ 8 = 256 from rfl, Nat.div_div_eq_div_mul, Nat.div_div_eq_div_mul, Nat.div_div_eq_div_mul, Nat.div_div_eq_div_mul, Nat.div_div_eq_div_mul, Nat.div_div_eq_div_mul]
theorem qT8 {n : Nat} (h : n < 1099511627776) : qT 8 n = pc_ 8 (n % 256) + 256 * pc_ 8 (n / 256 % 256) + 65536 * pc_ 8 (n / 65536 % 256) + 16777216 * pc_ 8 (n / 16777216 % 256) + 4294967296 * pc_ 8 (n / 4294967296) := by
  have e0 : n = 256 * (n / 256) + n % 256 := by omega
  have e1 : n / 256 = 256 * (n / 65536) + n / 256 % 256 := by omega
  have e2 : n / 65536 = 256 * (n / 16777216) + n / 65536 % 256 := by omega
  have e3 : n / 16777216 = 256 * (n / 4294967296) + n / 16777216 % 256 := by omega
  have e4 : n / 4294967296 = 256 * 0 + n / 4294967296 := by omega
  have z : qT 3 0 = 0 := by decide
  have h4 : qT 4 (256 * 0 + n / 4294967296) = 256 * qT 3 0 + pc_ 8 (n / 4294967296) := qT_byte 3 0 (b := n / 4294967296) (by omega) (by decide)
  rw [← e4] at h4
  have h3 : qT 5 (256 * (n / 4294967296) + n / 16777216 % 256) = 256 * qT 4 (n / 4294967296) + pc_ 8 (n / 16777216 % 256) := qT_byte 4 (n / 4294967296) (b := n / 16777216 % 256) (by omega) (by omega)
  rw [← e3] at h3
  have h2 : qT 6 (256 * (n / 16777216) + n / 65536 % 256) = 256 * qT 5 (n / 16777216) + pc_ 8 (n / 65536 % 256) := qT_byte 5 (n / 16777216) (b := n / 65536 % 256) (by omega) (by omega)
  rw [← e2] at h2
  have h1 : qT 7 (256 * (n / 65536) + n / 256 % 256) = 256 * qT 6 (n / 65536) + pc_ 8 (n / 256 % 256) := qT_byte 6 (n / 65536) (b := n / 256 % 256) (by omega) (by omega)
  rw [← e1] at h1
  have h0 : qT 8 (256 * (n / 256) + n % 256) = 256 * qT 7 (n / 256) + pc_ 8 (n % 256) := qT_byte 7 (n / 256) (b := n % 256) (by omega) (by omega)
  rw [← e0] at h0
  rw [h0, h1, h2, h3, h4, z]
  omega
