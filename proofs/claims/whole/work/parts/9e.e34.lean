theorem tn_inj {x y : Int32} (h : tn x = tn y) : x = y := Int32.toBitVec_inj.mp (BitVec.eq_of_toNat_eq h)
theorem tn_nI' (k : Nat) (h : k < 4294967296) : tn (nI k) = k := by
  show (BitVec.ofNat 32 k).toNat = k
  rw [BitVec.toNat_ofNat, Nat.mod_eq_of_lt h]
theorem tn_or (x y : Int32) : tn (x ||| y) = tn x ||| tn y := by
  unfold tn; rw [Int32.toBitVec_or, BitVec.toNat_or]
theorem ex_a (b : Int32) : ((b.toUInt32 >>> (Int32.toUInt32 23 &&& Int32.toUInt32 31)).toInt32 &&& 255) = nI (tn b / 8388608 % 256) := by
  refine tn_inj ?_
  rw [tn_and, show (23 : Int32) = nI 23 from rfl, tn_shr b 23 (by decide), tn_nI' _ (by omega)]
  exact Nat.and_two_pow_sub_one_eq_mod _ 8
theorem ex_b (b : Int32) : (b >>> (23 &&& 31) &&& 255) = nI (tn b / 8388608 % 256) := by
  rw [← ex_a]
  rw [← Int32.toBitVec_inj, Int32.toBitVec_and, Int32.toBitVec_and, Int32.toBitVec_shiftRight]
  have e : (23 &&& 31 : Int32).toBitVec.smod 32 = BitVec.ofNat 32 23 := by decide
  have e2 : (b.toUInt32 >>> (Int32.toUInt32 23 &&& Int32.toUInt32 31)).toInt32.toBitVec = b.toBitVec >>> 23 := by
    refine BitVec.eq_of_toNat_eq ?_
    have q := tn_shr b 23 (by decide)
    rw [BitVec.toNat_ushiftRight, Nat.shiftRight_eq_div_pow]
    exact q
  rw [e, e2]
  show BitVec.sshiftRight b.toBitVec (BitVec.ofNat 32 23).toNat &&& 255#32 = _
  rw [BitVec.toNat_ofNat]
  refine BitVec.eq_of_getLsbD_eq fun i hi => ?_
  rw [BitVec.getLsbD_and, BitVec.getLsbD_and, BitVec.getLsbD_sshiftRight, BitVec.getLsbD_ushiftRight]
  by_cases z : i < 8
  · rw [if_pos (by omega)]
    have : decide (32 ≤ i) = false := decide_eq_false (by omega)
    rw [this]
    rfl
  · have q : ∀ i, i < 32 → ¬ i < 8 → (255#32).getLsbD i = false := by decide
    have q2 := q i hi z
    rw [show (255 : Int32).toBitVec = 255#32 from rfl, q2, Bool.and_false, Bool.and_false]
theorem ma_a (b : Int32) : b &&& 8388607 = nI (tn b % 8388608) := by
  refine tn_inj ?_
  rw [tn_and, tn_nI' _ (by omega)]
  exact Nat.and_two_pow_sub_one_eq_mod _ 23
theorem ma_b (b : Int32) : b &&& 8388607 ||| 8388608 = nI (tn b % 8388608 + 8388608) := by
  refine tn_inj ?_
  rw [tn_or, ma_a, tn_nI' _ (by omega), tn_nI' _ (by omega)]
  show tn b % 8388608 ||| 8388608 = _
  have q := Nat.two_pow_add_eq_or_of_lt (i := 23) (b := tn b % 8388608) (by omega) 1
  rw [Nat.or_comm]
  have q : 8388608 + tn b % 8388608 = 8388608 ||| tn b % 8388608 := q
  omega
theorem nI_msb {x : Nat} (h : x < 2147483648) : (nI x).toBitVec.msb = false := by
  rw [BitVec.msb_eq_decide]
  have q := tn_nI' x (by omega)
  have q : (nI x).toBitVec.toNat = x := q
  rw [q]
  exact decide_eq_false (by omega)
theorem sr_32 {x k : Nat} (h : x < 2147483648) (hk : k < 32) : nI x >>> (nI k &&& 31) = nI (x / 2 ^ k) := by
  refine tn_inj ?_
  unfold tn
  rw [Int32.toBitVec_shiftRight, nk k hk]
  show (BitVec.sshiftRight (nI x).toBitVec (BitVec.ofNat 32 k).toNat).toNat = _
  have hd : x / 2 ^ k ≤ x := Nat.div_le_self _ _
  have q := tn_nI' (x / 2 ^ k) (by omega)
  have q2 := tn_nI' x (by omega)
  have q : (nI (x / 2 ^ k)).toBitVec.toNat = _ := q
  have q2 : (nI x).toBitVec.toNat = _ := q2
  rw [BitVec.toNat_ofNat, Nat.mod_eq_of_lt (by omega), BitVec.toNat_sshiftRight_of_msb_false (nI_msb h), q, q2, Nat.shiftRight_eq_div_pow]
theorem sl_32 {x k : Nat} (h : x * 2 ^ k < 4294967296) (hk : k < 32) : nI x <<< (nI k &&& 31) = nI (x * 2 ^ k) := by
  refine tn_inj ?_
  unfold tn
  rw [Int32.toBitVec_shiftLeft, nk k hk]
  show ((nI x).toBitVec <<< (BitVec.ofNat 32 k).toNat).toNat = _
  have hx : x ≤ x * 2 ^ k := Nat.le_mul_of_pos_right _ (Nat.two_pow_pos k)
  have q := tn_nI' (x * 2 ^ k) (by omega)
  have q2 := tn_nI' x (by omega)
  have q : (nI (x * 2 ^ k)).toBitVec.toNat = _ := q
  have q2 : (nI x).toBitVec.toNat = _ := q2
  rw [BitVec.toNat_ofNat, Nat.mod_eq_of_lt (by omega), BitVec.toNat_shiftLeft, q, q2, Nat.shiftLeft_eq, Nat.mod_eq_of_lt (by omega)]
abbrev nL (k : Nat) : Int64 := Int64.ofNat k
theorem nL_tn (k : Nat) (h : k < 18446744073709551616) : (nL k).toBitVec.toNat = k := by
  show (BitVec.ofNat 64 k).toNat = k
  rw [BitVec.toNat_ofNat, Nat.mod_eq_of_lt h]
theorem nI_nL {x : Nat} (h : x < 2147483648) : (nI x).toInt64 = nL x := by
  refine Int64.toBitVec_inj.mp (BitVec.eq_of_toNat_eq ?_)
  rw [nL_tn x (by omega), Int32.toBitVec_toInt64, BitVec.signExtend_eq_setWidth_of_msb_false (nI_msb h), BitVec.toNat_setWidth]
  have q2 := tn_nI' x (by omega)
  have q2 : (nI x).toBitVec.toNat = _ := q2
  rw [q2, Nat.mod_eq_of_lt (by omega)]
theorem nL_msb {x : Nat} (h : x < 9223372036854775808) : (nL x).toBitVec.msb = false := by
  rw [BitVec.msb_eq_decide, nL_tn x (by omega)]
  exact decide_eq_false (by omega)
theorem nk64 : ∀ k, k < 32 → ((nI k).toInt64 &&& 63).toBitVec.smod 64 = BitVec.ofNat 64 k := by decide
theorem sr_64 {x k : Nat} (h : x < 9223372036854775808) (hk : k < 32) : nL x >>> ((nI k).toInt64 &&& 63) = nL (x / 2 ^ k) := by
  refine Int64.toBitVec_inj.mp (BitVec.eq_of_toNat_eq ?_)
  have hd : x / 2 ^ k ≤ x := Nat.div_le_self _ _
  rw [Int64.toBitVec_shiftRight, nk64 k hk, nL_tn _ (by omega)]
  show (BitVec.sshiftRight (nL x).toBitVec (BitVec.ofNat 64 k).toNat).toNat = _
  rw [BitVec.toNat_ofNat, Nat.mod_eq_of_lt (by omega), BitVec.toNat_sshiftRight_of_msb_false (nL_msb h), nL_tn x (by omega), Nat.shiftRight_eq_div_pow]
theorem sl_64 {x k : Nat} (h : x * 2 ^ k < 9223372036854775808) (hk : k < 32) : nL x <<< ((nI k).toInt64 &&& 63) = nL (x * 2 ^ k) := by
  refine Int64.toBitVec_inj.mp (BitVec.eq_of_toNat_eq ?_)
  have hx : x ≤ x * 2 ^ k := Nat.le_mul_of_pos_right _ (Nat.two_pow_pos k)
  rw [Int64.toBitVec_shiftLeft, nk64 k hk, nL_tn _ (by omega)]
  show ((nL x).toBitVec <<< (BitVec.ofNat 64 k).toNat).toNat = _
  rw [BitVec.toNat_ofNat, Nat.mod_eq_of_lt (by omega), BitVec.toNat_shiftLeft, nL_tn x (by omega), Nat.shiftLeft_eq, Nat.mod_eq_of_lt (by omega)]
theorem nL_int {x : Nat} (h : x < 9223372036854775808) : (nL x).toInt = x := by
  rw [← Int64.toInt_toBitVec, BitVec.toInt_eq_toNat_of_msb (nL_msb h), nL_tn x (by omega)]
theorem nL_32 {x : Nat} (h : x < 9223372036854775808) : (nL x).toInt32 = nI x := by
  refine Int32.toInt_inj.mp ?_
  rw [Int64.toInt_toInt32, nL_int h]
  show _ = (BitVec.ofNat 32 x).toInt
  rw [BitVec.toInt_ofNat']
/-- what both cuts give of a whole number without its sign -/
def cuS (b v : Int32) : Int32 := if 0 ≤ b then v else -v
theorem cu_lo {b : Int32} {x : Nat} (h : x < 2147483648) (e : cutV b = nL x) : cutM b = if 0 ≤ b then nI x else -nI x := by
  unfold cutM
  have h1 : nL x ≤ 2147483647 := by
    rw [Int64.le_iff_toInt_le, nL_int (by omega)]
    show (x : Int) ≤ 2147483647
    omega
  have h2 : nL x ≤ 2147483648 := by
    rw [Int64.le_iff_toInt_le, nL_int (by omega)]
    show (x : Int) ≤ 2147483648
    omega
  rw [e, if_pos h1, if_pos h2, Int64.toInt32_neg, nL_32 (by omega)]
theorem cu_hi {b : Int32} {x : Nat} (h : 2147483648 ≤ x) (h2 : x < 9223372036854775808) (e : cutV b = nL x) : cutM b = if 0 ≤ b then 2147483647 else -2147483648 := by
  unfold cutM
  have h1 : ¬ nL x ≤ 2147483647 := by
    rw [Int64.le_iff_toInt_le, nL_int (by omega)]
    show ¬ (x : Int) ≤ 2147483647
    omega
  rw [e, if_neg h1]
  by_cases z : nL x ≤ 2147483648
  · rw [if_pos z]
    rw [Int64.le_iff_toInt_le, nL_int (by omega)] at z
    have z : (x : Int) ≤ 2147483648 := z
    have e3 : x = 2147483648 := by omega
    rw [e3, Int64.toInt32_neg, nL_32 (by omega)]; rfl
  · rw [if_neg z]
theorem E_tab : ∀ E, E < 256 → ((nI E - 127 : Int32) < 0 ↔ E < 127) ∧ (30 < (nI E - 127 : Int32) ↔ 157 < E) ∧ ((nI E - 127 : Int32) ≤ 23 ↔ E ≤ 150) ∧ ((nI E - 150 : Int32) = -150 ↔ E = 0) ∧ ((nI E - 150 : Int32) ≤ 8 ↔ E ≤ 158) ∧ ((nI E - 150 : Int32) < 0 ↔ E < 150) ∧ (-30 ≤ (nI E - 150 : Int32) ↔ 120 ≤ E) ∧ (E ≤ 150 → 23 - (nI E - 127 : Int32) = nI (150 - E)) ∧ (150 ≤ E → (nI E - 127 : Int32) - 23 = nI (E - 150)) ∧ (E ≤ 150 → -(nI E - 150 : Int32) = nI (150 - E)) ∧ (150 ≤ E → (nI E - 150 : Int32) = nI (E - 150)) := by decide +kernel
theorem cut_eq (b : Int32) : ctF b = cutM b := by
  have hE : tn b / 8388608 % 256 < 256 := Nat.mod_lt _ (by decide)
  have hM : tn b % 8388608 < 8388608 := Nat.mod_lt _ (by decide)
  have eE : ctE b = nI (tn b / 8388608 % 256) - 127 := by unfold ctE; rw [ex_a]
  have eP : cutP b = nI (tn b / 8388608 % 256) - 150 := by unfold cutP; rw [ex_b]
  have eM : ctM b = nI (tn b % 8388608 + 8388608) := ma_b b
  have eN : ¬ tn b / 8388608 % 256 = 0 → cutN b = nL (tn b % 8388608 + 8388608) := fun z => by
    unfold cutN
    rw [eP, if_neg (fun y => z ((E_tab _ hE).2.2.2.1.mp y)), ma_b, nI_nL (by omega)]
  revert eE eP eM eN hE hM
  generalize tn b / 8388608 % 256 = E
  generalize tn b % 8388608 = M
  intro hE hM eE eP eM eN
  obtain ⟨t1, t2, t3, t4, t5, t6, t7, t8, t9, t10, t11⟩ := E_tab E hE
  unfold ctF
  rw [eE]
  by_cases c1 : E < 127
  · rw [if_pos (t1.mpr c1)]
    have hV : cutV b = nL 0 := by
      unfold cutV
      rw [eP, if_pos (t5.mpr (by omega)), if_pos (t6.mpr (by omega))]
      by_cases c2 : 120 ≤ E
      · rw [if_pos (t7.mpr c2), eN (by omega), t10 (by omega), sr_64 (by omega) (by omega)]
        have : (M + 8388608) / 2 ^ (150 - E) = 0 := by
          refine Nat.div_eq_of_lt ?_
          have q : 2 ^ 24 ≤ 2 ^ (150 - E) := Nat.pow_le_pow_right (by decide) (by omega)
          have q2 : M + 8388608 < 2 ^ 24 := by omega
          omega
        rw [this]
      · rw [if_neg (fun y => c2 (t7.mp y))]; rfl
    rw [cu_lo (by decide) hV]
    split <;> rfl
  · rw [if_neg (fun y => c1 (t1.mp y))]
    by_cases c2 : 157 < E
    · rw [if_pos (t2.mpr c2)]
      have hV : ∃ x, 2147483648 ≤ x ∧ x < 9223372036854775808 ∧ cutV b = nL x := by
        unfold cutV
        rw [eP]
        by_cases c3 : E ≤ 158
        · have e : E = 158 := by omega
          subst e
          rw [if_pos (t5.mpr c3), if_neg (fun y => absurd (t6.mp y) (by decide)), eN (by decide), t11 (by decide), sl_64 (by omega) (by decide)]
          exact ⟨_, by omega, by omega, rfl⟩
        · rw [if_neg (fun y => c3 (t5.mp y))]
          exact ⟨1099511627776, by decide, by decide, rfl⟩
      obtain ⟨x, h1, h2, h3⟩ := hV
      rw [cu_hi h1 h2 h3]
    · rw [if_neg (fun y => c2 (t2.mp y))]
      unfold ctS
      rw [eE, eM]
      by_cases c3 : E ≤ 150
      · rw [if_pos (t3.mpr c3), t8 c3, sr_32 (by omega) (by omega)]
        have hle : (M + 8388608) / 2 ^ (150 - E) ≤ M + 8388608 := Nat.div_le_self _ _
        have hV : cutV b = nL ((M + 8388608) / 2 ^ (150 - E)) := by
          unfold cutV
          rw [eP, if_pos (t5.mpr (by omega))]
          by_cases c4 : E < 150
          · rw [if_pos (t6.mpr c4), if_pos (t7.mpr (by omega)), eN (by omega), t10 (by omega), sr_64 (by omega) (by omega)]
          · have e : E = 150 := by omega
            subst e
            rw [if_neg (fun y => absurd (t6.mp y) (by decide)), eN (by decide), t11 (by decide), sl_64 (by omega) (by decide)]
            show nL ((M + 8388608) * 1) = nL ((M + 8388608) / 1)
            rw [Nat.mul_one, Nat.div_one]
        rw [cu_lo (by omega) hV]
      · have hp : (M + 8388608) * 2 ^ (E - 150) < 2147483648 := by
          have q : 2 ^ (E - 150) ≤ 2 ^ 7 := Nat.pow_le_pow_right (by decide) (by omega)
          have q2 : (M + 8388608) * 2 ^ (E - 150) ≤ (M + 8388608) * 2 ^ 7 := Nat.mul_le_mul_left _ q
          omega
        rw [if_neg (fun y => c3 (t3.mp y)), t9 (by omega), sl_32 (by omega) (by omega)]
        have hV : cutV b = nL ((M + 8388608) * 2 ^ (E - 150)) := by
          unfold cutV
          rw [eP, if_pos (t5.mpr (by omega)), if_neg (fun y => absurd (t6.mp y) (by omega)), eN (by omega), t11 (by omega), sl_64 (by omega) (by omega)]
        rw [cu_lo hp hV]

