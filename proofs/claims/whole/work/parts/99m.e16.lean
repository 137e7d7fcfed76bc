/-- the number of set bits -/
theorem and_dig {k a r m s : Nat} (hr : r < 2 ^ k) (hs : s < 2 ^ k) : (2 ^ k * a + r) &&& (2 ^ k * m + s) = 2 ^ k * (a &&& m) + (r &&& s) := by
  apply Nat.eq_of_testBit_eq
  intro j
  rw [Nat.testBit_and, Nat.testBit_two_pow_mul_add _ hr, Nat.testBit_two_pow_mul_add _ hs, Nat.testBit_two_pow_mul_add _ (Nat.and_lt_two_pow _ hs)]
  split
  · rw [Nat.testBit_and]
  · rw [Nat.testBit_and]
theorem and4 {a b c d m : Nat} (ha : a < 256) (hb : b < 256) (hc : c < 256) (hm : m < 256) : (16777216 * d + 65536 * c + 256 * b + a) &&& (16777216 * m + 65536 * m + 256 * m + m) = 16777216 * (d &&& m) + 65536 * (c &&& m) + 256 * (b &&& m) + (a &&& m) := by
  rw [show 16777216 * d + 65536 * c + 256 * b + a = 2 ^ 8 * (2 ^ 8 * (2 ^ 8 * d + c) + b) + a by omega, show 16777216 * m + 65536 * m + 256 * m + m = 2 ^ 8 * (2 ^ 8 * (2 ^ 8 * m + m) + m) + m by omega, and_dig ha hm, and_dig hb hm, and_dig hc hm]
  omega
def pb1 (x : Nat) : Nat := x - (x / 2 &&& 85)
def pb2 (x : Nat) : Nat := (x &&& 51) + (x / 4 &&& 51)
def pb3 (x : Nat) : Nat := (x + x / 16) &&& 15
def pc8 (x : Nat) : Nat := x % 2 + x / 2 % 2 + x / 4 % 2 + x / 8 % 2 + x / 16 % 2 + x / 32 % 2 + x / 64 % 2 + x / 128 % 2
theorem pb_1 : ∀ x, x < 256 → (x / 2 &&& 85) ≤ x ∧ pb1 x < 256 := by decide +kernel
theorem pb_1a : ∀ x, x < 256 → ((128 + x / 2) &&& 85) = (x / 2 &&& 85) := by decide +kernel
theorem pb_2 : ∀ x, x < 256 → (x / 4 &&& 51) ≤ 51 ∧ (x &&& 51) ≤ 51 ∧ ((64 + x / 4) &&& 51) = (x / 4 &&& 51) ∧ ((128 + x / 4) &&& 51) = (x / 4 &&& 51) ∧ ((192 + x / 4) &&& 51) = (x / 4 &&& 51) := by decide +kernel
theorem pb_3 : ∀ x, x < 256 → pb2 (pb1 x) % 16 ≤ 4 ∧ pb2 (pb1 x) / 16 ≤ 4 ∧ pb3 (pb2 (pb1 x)) = pc8 x ∧ pc8 x ≤ 8 := by decide +kernel
theorem pb_4 : ∀ x, x < 80 → ((16 + (x + x / 16)) &&& 15) = pb3 x ∧ ((32 + (x + x / 16)) &&& 15) = pb3 x ∧ ((48 + (x + x / 16)) &&& 15) = pb3 x ∧ ((64 + (x + x / 16)) &&& 15) = pb3 x := by decide +kernel
abbrev N4 (d c b a : Nat) : Nat := 16777216 * d + 65536 * c + 256 * b + a
theorem n4_1 {d c b a : Nat} (hd : d < 256) (hc : c < 256) (hb : b < 256) (ha : a < 256) : N4 d c b a - (N4 d c b a / 2 &&& 1431655765) = N4 (pb1 d) (pb1 c) (pb1 b) (pb1 a) ∧ (N4 d c b a / 2 &&& 1431655765) ≤ N4 d c b a := by
  have e : N4 d c b a / 2 = 16777216 * (d / 2) + 65536 * (128 * (d % 2) + c / 2) + 256 * (128 * (c % 2) + b / 2) + (128 * (b % 2) + a / 2) := by unfold N4; omega
  have q := and4 (a := 128 * (b % 2) + a / 2) (b := 128 * (c % 2) + b / 2) (c := 128 * (d % 2) + c / 2) (d := d / 2) (m := 85) (by omega) (by omega) (by omega) (by decide)
  have f : ∀ x y, x < 256 → ((128 * (y % 2) + x / 2) &&& 85) = (x / 2 &&& 85) := fun x y hx => by
    rcases Nat.mod_two_eq_zero_or_one y with z | z
    · rw [z, Nat.mul_zero, Nat.zero_add]
    · rw [z, Nat.mul_one]; exact pb_1a x hx
  rw [e, show (1431655765 : Nat) = 16777216 * 85 + 65536 * 85 + 256 * 85 + 85 from rfl, q, f a b ha, f b c hb, f c d hc]
  have ha := (pb_1 a ha).1
  have hb := (pb_1 b hb).1
  have hc := (pb_1 c hc).1
  have hd := (pb_1 d hd).1
  unfold pb1 N4
  omega
theorem n4_2 {d c b a : Nat} (hd : d < 256) (hc : c < 256) (hb : b < 256) (ha : a < 256) : (N4 d c b a &&& 858993459) + (N4 d c b a / 4 &&& 858993459) = N4 (pb2 d) (pb2 c) (pb2 b) (pb2 a) := by
  have e : N4 d c b a / 4 = 16777216 * (d / 4) + 65536 * (64 * (d % 4) + c / 4) + 256 * (64 * (c % 4) + b / 4) + (64 * (b % 4) + a / 4) := by unfold N4; omega
  have q := and4 (a := 64 * (b % 4) + a / 4) (b := 64 * (c % 4) + b / 4) (c := 64 * (d % 4) + c / 4) (d := d / 4) (m := 51) (by omega) (by omega) (by omega) (by decide)
  have q2 := and4 (a := a) (b := b) (c := c) (d := d) (m := 51) ha hb hc (by decide)
  have f : ∀ x y, x < 256 → ((64 * (y % 4) + x / 4) &&& 51) = (x / 4 &&& 51) := fun x y hx => by
    have z : y % 4 = 0 ∨ y % 4 = 1 ∨ y % 4 = 2 ∨ y % 4 = 3 := by omega
    obtain ⟨-, -, p1, p2, p3⟩ := pb_2 x hx
    rcases z with z | z | z | z
    · rw [z, Nat.mul_zero, Nat.zero_add]
    · rw [z, Nat.mul_one]; exact p1
    · rw [z]; exact p2
    · rw [z]; exact p3
  rw [e, show (858993459 : Nat) = 16777216 * 51 + 65536 * 51 + 256 * 51 + 51 from rfl, q, q2, f a b ha, f b c hb, f c d hc]
  unfold pb2 N4
  omega
theorem n4_3 {d c b a : Nat} (hd : d < 80) (hc : c < 80) (hb : b < 80) (ha : a < 80) (hd4 : d % 16 ≤ 4) (hc4 : c % 16 ≤ 4) (hb4 : b % 16 ≤ 4) : (N4 d c b a + N4 d c b a / 16) &&& 252645135 = N4 (pb3 d) (pb3 c) (pb3 b) (pb3 a) := by
  have e : N4 d c b a + N4 d c b a / 16 = 16777216 * (d + d / 16) + 65536 * (16 * (d % 16) + (c + c / 16)) + 256 * (16 * (c % 16) + (b + b / 16)) + (16 * (b % 16) + (a + a / 16)) := by unfold N4; omega
  have q := and4 (a := 16 * (b % 16) + (a + a / 16)) (b := 16 * (c % 16) + (b + b / 16)) (c := 16 * (d % 16) + (c + c / 16)) (d := d + d / 16) (m := 15) (by omega) (by omega) (by omega) (by decide)
  have f : ∀ x y, x < 80 → y % 16 ≤ 4 → ((16 * (y % 16) + (x + x / 16)) &&& 15) = pb3 x := fun x y hx hy => by
    have z : y % 16 = 0 ∨ y % 16 = 1 ∨ y % 16 = 2 ∨ y % 16 = 3 ∨ y % 16 = 4 := by omega
    obtain ⟨p1, p2, p3, p4⟩ := pb_4 x hx
    rcases z with z | z | z | z | z
    · rw [z, Nat.mul_zero, Nat.zero_add]; rfl
    · rw [z, Nat.mul_one]; exact p1
    · rw [z]; exact p2
    · rw [z]; exact p3
    · rw [z]; exact p4
  rw [e, show (252645135 : Nat) = 16777216 * 15 + 65536 * 15 + 256 * 15 + 15 from rfl, q, f a b ha hb4, f b c hb hc4, f c d hc hd4]
  rfl
theorem and63 (x : Nat) : x &&& 63 = x % 64 := Nat.and_two_pow_sub_one_eq_mod x 6
abbrev tn (x : Int32) : Nat := x.toBitVec.toNat
theorem tn_lt (x : Int32) : tn x < 4294967296 := x.toBitVec.isLt
theorem tn_and (x y : Int32) : tn (x &&& y) = tn x &&& tn y := by
  unfold tn; rw [Int32.toBitVec_and, BitVec.toNat_and]
theorem tn_add (x y : Int32) : tn (x + y) = (tn x + tn y) % 4294967296 := by
  unfold tn; rw [Int32.toBitVec_add, BitVec.toNat_add]
theorem tn_sub (x y : Int32) (h : tn y ≤ tn x) : tn (x - y) = tn x - tn y := by
  have h1 := tn_lt x
  unfold tn at *
  rw [Int32.toBitVec_sub, BitVec.toNat_sub]
  omega
theorem tn_shr (x : Int32) (k : Nat) (hk : k < 32) : tn (x.toUInt32 >>> (Int32.toUInt32 (nI k) &&& Int32.toUInt32 31)).toInt32 = tn x / 2 ^ k := by
  rw [nu k hk]
  show (x.toUInt32 >>> UInt32.ofNat k).toNat = _
  rw [UInt32.toNat_shiftRight, Nat.shiftRight_eq_div_pow]
  have e : (UInt32.ofNat k).toNat % 32 = k := by
    rw [UInt32.toNat_ofNat_of_lt' (by show k < 2 ^ 32; omega)]
    omega
  rw [e]; rfl
theorem bc_sum {x : Int32} {d c b a : Nat} (hd : d < 256) (hc : c < 256) (hb : b < 256) (ha : a < 256) (hx : tn x = N4 d c b a) : tn (bcI x) = pc8 d + pc8 c + pc8 b + pc8 a := by
  obtain ⟨q1, q2⟩ := n4_1 hd hc hb ha
  have e1 : tn (bc1 x) = N4 (pb1 d) (pb1 c) (pb1 b) (pb1 a) := by
    have s1 : tn ((x.toUInt32 >>> (Int32.toUInt32 1 &&& Int32.toUInt32 31)).toInt32 &&& 1431655765) = (N4 d c b a / 2 &&& 1431655765) := by
      rw [tn_and, ← hx]
      exact congrArg (· &&& 1431655765) (tn_shr x 1 (by decide))
    unfold bc1
    rw [tn_sub _ _ (by rw [s1, hx]; exact q2), s1, hx, q1]
  have g := fun z hz => (pb_1 z hz).2
  have e2 : tn (bc2 (bc1 x)) = N4 (pb2 (pb1 d)) (pb2 (pb1 c)) (pb2 (pb1 b)) (pb2 (pb1 a)) := by
    have r := n4_2 (g d hd) (g c hc) (g b hb) (g a ha)
    generalize bc1 x = y at *
    have s1 : tn ((y.toUInt32 >>> (Int32.toUInt32 2 &&& Int32.toUInt32 31)).toInt32 &&& 858993459) = (tn y / 4 &&& 858993459) := by
      rw [tn_and]
      exact congrArg (· &&& 858993459) (tn_shr y 2 (by decide))
    have s2 : tn (y &&& 858993459) = (tn y &&& 858993459) := tn_and _ _
    unfold bc2
    rw [tn_add, s1, s2, e1, r]
    have u1 := fun z hz => pb_2 z hz
    have ka := u1 _ (g a ha)
    have kb := u1 _ (g b hb)
    have kc := u1 _ (g c hc)
    have kd := u1 _ (g d hd)
    unfold N4 pb2
    omega
  have e3 : tn (bc3 (bc2 (bc1 x))) = N4 (pc8 d) (pc8 c) (pc8 b) (pc8 a) := by
    have u := fun z hz => pb_3 z hz
    obtain ⟨a1, a2, a3, -⟩ := u a ha
    obtain ⟨b1, b2, b3, -⟩ := u b hb
    obtain ⟨c1, c2, c3, -⟩ := u c hc
    obtain ⟨d1, d2, d3, -⟩ := u d hd
    have r := n4_3 (d := pb2 (pb1 d)) (c := pb2 (pb1 c)) (b := pb2 (pb1 b)) (a := pb2 (pb1 a)) (by omega) (by omega) (by omega) (by omega) d1 c1 b1
    rw [a3, b3, c3, d3] at r
    generalize bc2 (bc1 x) = y at *
    have s1 : tn (y.toUInt32 >>> (Int32.toUInt32 4 &&& Int32.toUInt32 31)).toInt32 = tn y / 16 := tn_shr y 4 (by decide)
    have s2 : tn (bc3 y) = (tn (y + (y.toUInt32 >>> (Int32.toUInt32 4 &&& Int32.toUInt32 31)).toInt32) &&& 252645135) := tn_and _ _
    rw [s2, tn_add, s1, e2, Nat.mod_eq_of_lt, r]
    unfold N4
    omega
  have u := fun z hz => (pb_3 z hz).2.2.2
  have ka := u a ha
  have kb := u b hb
  have kc := u c hc
  have kd := u d hd
  unfold bcI
  generalize bc3 (bc2 (bc1 x)) = y at *
  have e4 : tn (bc4 y) = tn y + tn y / 256 := by
    unfold bc4
    rw [tn_add, show tn (y.toUInt32 >>> (Int32.toUInt32 8 &&& Int32.toUInt32 31)).toInt32 = tn y / 256 from tn_shr y 8 (by decide), e3]
    unfold N4
    omega
  generalize bc4 y = y2 at *
  have e5 : tn (bc5 y2) = tn y2 + tn y2 / 65536 := by
    unfold bc5
    rw [tn_add, show tn (y2.toUInt32 >>> (Int32.toUInt32 16 &&& Int32.toUInt32 31)).toInt32 = tn y2 / 65536 from tn_shr y2 16 (by decide), e4, e3]
    unfold N4
    omega
  rw [show tn (bc5 y2 &&& 63) = (tn (bc5 y2) &&& 63) from tn_and _ _, and63, e5, e4, e3]
  have z1 : N4 (pc8 d) (pc8 c) (pc8 b) (pc8 a) / 256 = 65536 * pc8 d + 256 * pc8 c + pc8 b := by unfold N4; omega
  have z2 : N4 (pc8 d) (pc8 c) (pc8 b) (pc8 a) + (65536 * pc8 d + 256 * pc8 c + pc8 b) = 65536 * (256 * pc8 d + (pc8 c + pc8 d)) + (256 * (pc8 b + pc8 c) + (pc8 a + pc8 b)) := by unfold N4; omega
  rw [z1, z2]
  have z3 : (65536 * (256 * pc8 d + (pc8 c + pc8 d)) + (256 * (pc8 b + pc8 c) + (pc8 a + pc8 b))) / 65536 = 256 * pc8 d + (pc8 c + pc8 d) := by omega
  rw [z3]
  omega
def cbN (p : Nat) : Nat → Nat
  | 0 => 0
  | k + 1 => cbN p k + p / 2 ^ k % 2
theorem lo_0 (y b : Nat) : (256 * y + b) / 1 % 2 = b / 1 % 2 := by omega
theorem lo_1 (y b : Nat) : (256 * y + b) / 2 % 2 = b / 2 % 2 := by omega
theorem lo_2 (y b : Nat) : (256 * y + b) / 4 % 2 = b / 4 % 2 := by omega
theorem lo_3 (y b : Nat) : (256 * y + b) / 8 % 2 = b / 8 % 2 := by omega
theorem lo_4 (y b : Nat) : (256 * y + b) / 16 % 2 = b / 16 % 2 := by omega
theorem lo_5 (y b : Nat) : (256 * y + b) / 32 % 2 = b / 32 % 2 := by omega
theorem lo_6 (y b : Nat) : (256 * y + b) / 64 % 2 = b / 64 % 2 := by omega
theorem lo_7 (y b : Nat) : (256 * y + b) / 128 % 2 = b / 128 % 2 := by omega

set_option maxHeartbeats 2000000 in
theorem cb_32 {d c b a : Nat} (hd : d < 256) (hc : c < 256) (hb : b < 256) (ha : a < 256) : cbN (N4 d c b a) 32 = pc8 d + pc8 c + pc8 b + pc8 a := by
  have e1 : N4 d c b a = 256 * (65536 * d + 256 * c + b) + a := by unfold N4; omega
  have e2 : N4 d c b a / 256 = 256 * (256 * d + c) + b := by unfold N4; omega
  have e3 : N4 d c b a / 65536 = 256 * d + c := by unfold N4; omega
  have e4 : N4 d c b a / 16777216 = 256 * 0 + d := by unfold N4; omega
  generalize N4 d c b a = x at *
  have h0 : x / 2 ^ 0 % 2 = a / 1 % 2 := by
    rw [show x / 2 ^ 0 = x / 1 / 1 from (Nat.div_div_eq_div_mul x 1 1).symm, Nat.div_one, e1, lo_0]
  have h1 : x / 2 ^ 1 % 2 = a / 2 % 2 := by
    rw [show x / 2 ^ 1 = x / 1 / 2 from (Nat.div_div_eq_div_mul x 1 2).symm, Nat.div_one, e1, lo_1]
  have h2 : x / 2 ^ 2 % 2 = a / 4 % 2 := by
    rw [show x / 2 ^ 2 = x / 1 / 4 from (Nat.div_div_eq_div_mul x 1 4).symm, Nat.div_one, e1, lo_2]
  have h3 : x / 2 ^ 3 % 2 = a / 8 % 2 := by
    rw [show x / 2 ^ 3 = x / 1 / 8 from (Nat.div_div_eq_div_mul x 1 8).symm, Nat.div_one, e1, lo_3]
  have h4 : x / 2 ^ 4 % 2 = a / 16 % 2 := by
    rw [show x / 2 ^ 4 = x / 1 / 16 from (Nat.div_div_eq_div_mul x 1 16).symm, Nat.div_one, e1, lo_4]
  have h5 : x / 2 ^ 5 % 2 = a / 32 % 2 := by
    rw [show x / 2 ^ 5 = x / 1 / 32 from (Nat.div_div_eq_div_mul x 1 32).symm, Nat.div_one, e1, lo_5]
  have h6 : x / 2 ^ 6 % 2 = a / 64 % 2 := by
    rw [show x / 2 ^ 6 = x / 1 / 64 from (Nat.div_div_eq_div_mul x 1 64).symm, Nat.div_one, e1, lo_6]
  have h7 : x / 2 ^ 7 % 2 = a / 128 % 2 := by
    rw [show x / 2 ^ 7 = x / 1 / 128 from (Nat.div_div_eq_div_mul x 1 128).symm, Nat.div_one, e1, lo_7]
  have h8 : x / 2 ^ 8 % 2 = b / 1 % 2 := by
    rw [show x / 2 ^ 8 = x / 256 / 1 from (Nat.div_div_eq_div_mul x 256 1).symm, e2, lo_0]
  have h9 : x / 2 ^ 9 % 2 = b / 2 % 2 := by
    rw [show x / 2 ^ 9 = x / 256 / 2 from (Nat.div_div_eq_div_mul x 256 2).symm, e2, lo_1]
  have h10 : x / 2 ^ 10 % 2 = b / 4 % 2 := by
    rw [show x / 2 ^ 10 = x / 256 / 4 from (Nat.div_div_eq_div_mul x 256 4).symm, e2, lo_2]
  have h11 : x / 2 ^ 11 % 2 = b / 8 % 2 := by
    rw [show x / 2 ^ 11 = x / 256 / 8 from (Nat.div_div_eq_div_mul x 256 8).symm, e2, lo_3]
  have h12 : x / 2 ^ 12 % 2 = b / 16 % 2 := by
    rw [show x / 2 ^ 12 = x / 256 / 16 from (Nat.div_div_eq_div_mul x 256 16).symm, e2, lo_4]
  have h13 : x / 2 ^ 13 % 2 = b / 32 % 2 := by
    rw [show x / 2 ^ 13 = x / 256 / 32 from (Nat.div_div_eq_div_mul x 256 32).symm, e2, lo_5]
  have h14 : x / 2 ^ 14 % 2 = b / 64 % 2 := by
    rw [show x / 2 ^ 14 = x / 256 / 64 from (Nat.div_div_eq_div_mul x 256 64).symm, e2, lo_6]
  have h15 : x / 2 ^ 15 % 2 = b / 128 % 2 := by
    rw [show x / 2 ^ 15 = x / 256 / 128 from (Nat.div_div_eq_div_mul x 256 128).symm, e2, lo_7]
  have h16 : x / 2 ^ 16 % 2 = c / 1 % 2 := by
    rw [show x / 2 ^ 16 = x / 65536 / 1 from (Nat.div_div_eq_div_mul x 65536 1).symm, e3, lo_0]
  have h17 : x / 2 ^ 17 % 2 = c / 2 % 2 := by
    rw [show x / 2 ^ 17 = x / 65536 / 2 from (Nat.div_div_eq_div_mul x 65536 2).symm, e3, lo_1]
  have h18 : x / 2 ^ 18 % 2 = c / 4 % 2 := by
    rw [show x / 2 ^ 18 = x / 65536 / 4 from (Nat.div_div_eq_div_mul x 65536 4).symm, e3, lo_2]
  have h19 : x / 2 ^ 19 % 2 = c / 8 % 2 := by
    rw [show x / 2 ^ 19 = x / 65536 / 8 from (Nat.div_div_eq_div_mul x 65536 8).symm, e3, lo_3]
  have h20 : x / 2 ^ 20 % 2 = c / 16 % 2 := by
    rw [show x / 2 ^ 20 = x / 65536 / 16 from (Nat.div_div_eq_div_mul x 65536 16).symm, e3, lo_4]
  have h21 : x / 2 ^ 21 % 2 = c / 32 % 2 := by
    rw [show x / 2 ^ 21 = x / 65536 / 32 from (Nat.div_div_eq_div_mul x 65536 32).symm, e3, lo_5]
  have h22 : x / 2 ^ 22 % 2 = c / 64 % 2 := by
    rw [show x / 2 ^ 22 = x / 65536 / 64 from (Nat.div_div_eq_div_mul x 65536 64).symm, e3, lo_6]
  have h23 : x / 2 ^ 23 % 2 = c / 128 % 2 := by
    rw [show x / 2 ^ 23 = x / 65536 / 128 from (Nat.div_div_eq_div_mul x 65536 128).symm, e3, lo_7]
  have h24 : x / 2 ^ 24 % 2 = d / 1 % 2 := by
    rw [show x / 2 ^ 24 = x / 16777216 / 1 from (Nat.div_div_eq_div_mul x 16777216 1).symm, e4, lo_0]
  have h25 : x / 2 ^ 25 % 2 = d / 2 % 2 := by
    rw [show x / 2 ^ 25 = x / 16777216 / 2 from (Nat.div_div_eq_div_mul x 16777216 2).symm, e4, lo_1]
  have h26 : x / 2 ^ 26 % 2 = d / 4 % 2 := by
    rw [show x / 2 ^ 26 = x / 16777216 / 4 from (Nat.div_div_eq_div_mul x 16777216 4).symm, e4, lo_2]
  have h27 : x / 2 ^ 27 % 2 = d / 8 % 2 := by
    rw [show x / 2 ^ 27 = x / 16777216 / 8 from (Nat.div_div_eq_div_mul x 16777216 8).symm, e4, lo_3]
  have h28 : x / 2 ^ 28 % 2 = d / 16 % 2 := by
    rw [show x / 2 ^ 28 = x / 16777216 / 16 from (Nat.div_div_eq_div_mul x 16777216 16).symm, e4, lo_4]
  have h29 : x / 2 ^ 29 % 2 = d / 32 % 2 := by
    rw [show x / 2 ^ 29 = x / 16777216 / 32 from (Nat.div_div_eq_div_mul x 16777216 32).symm, e4, lo_5]
  have h30 : x / 2 ^ 30 % 2 = d / 64 % 2 := by
    rw [show x / 2 ^ 30 = x / 16777216 / 64 from (Nat.div_div_eq_div_mul x 16777216 64).symm, e4, lo_6]
  have h31 : x / 2 ^ 31 % 2 = d / 128 % 2 := by
    rw [show x / 2 ^ 31 = x / 16777216 / 128 from (Nat.div_div_eq_div_mul x 16777216 128).symm, e4, lo_7]
  simp only [cbN, h0, h1, h2, h3, h4, h5, h6, h7, h8, h9, h10, h11, h12, h13, h14, h15, h16, h17, h18, h19, h20, h21, h22, h23, h24, h25, h26, h27, h28, h29, h30, h31]
  unfold pc8
  omega
theorem bc_cb (x : Int32) : tn (bcI x) = cbN (tn x) 32 := by
  have hx := tn_lt x
  have e : tn x = N4 (tn x / 16777216) (tn x / 65536 % 256) (tn x / 256 % 256) (tn x % 256) := by unfold N4; omega
  have q := bc_sum (by omega) (by omega) (by omega) (by omega) e
  rw [q, ← cb_32 (by omega) (by omega) (by omega) (by omega), ← e]

