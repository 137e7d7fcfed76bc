def pkG (g : Nat → Nat) : Nat → Nat
  | 0 => 0
  | L + 1 => 32 * pkG g L + g L
theorem pkG_inj {g g' : Nat → Nat} : ∀ L M, (∀ i, i < L → 1 ≤ g i ∧ g i ≤ 26) → (∀ i, i < M → 1 ≤ g' i ∧ g' i ≤ 26) → pkG g L = pkG g' M → L = M ∧ ∀ i, i < L → g i = g' i
  | 0, 0, _, _, _ => ⟨rfl, fun i hi => absurd hi (Nat.not_lt_zero _)⟩
  | 0, M + 1, _, h2, e => by
    have := h2 M (Nat.lt_succ_self _)
    rw [pkG, pkG] at e
    omega
  | L + 1, 0, h1, _, e => by
    have := h1 L (Nat.lt_succ_self _)
    rw [pkG, pkG] at e
    omega
  | L + 1, M + 1, h1, h2, e => by
    have a := h1 L (Nat.lt_succ_self _)
    have b := h2 M (Nat.lt_succ_self _)
    rw [pkG, pkG] at e
    obtain ⟨p, q⟩ := pkG_inj L M (fun i hi => h1 i (by omega)) (fun i hi => h2 i (by omega)) (by omega)
    subst p
    refine ⟨rfl, fun i hi => ?_⟩
    by_cases z : i = L
    · subst z; omega
    · exact q i (by omega)
theorem pkG_lt {g : Nat → Nat} : ∀ L, (∀ i, i < L → g i ≤ 26) → pkG g L < 32 ^ L
  | 0, _ => Nat.one_pos
  | L + 1, h => by
    have a := h L (Nat.lt_succ_self _)
    have b := pkG_lt L (fun i hi => h i (by omega))
    rw [pkG, Nat.pow_succ]
    omega
theorem pkG_cg {g g' : Nat → Nat} : ∀ L, (∀ i, i < L → g i = g' i) → pkG g L = pkG g' L
  | 0, _ => rfl
  | L + 1, h => by rw [pkG, pkG, pkG_cg L (fun i hi => h i (by omega)), h L (Nat.lt_succ_self _)]
abbrev lt5 (f : Nat → Int32) (a i : Nat) : Nat := (f (a + i)).toNatClampNeg - 96
theorem lett_nI {x : Int32} (h : 97 ≤ x ∧ x ≤ 122) : ∃ d, 1 ≤ d ∧ d ≤ 26 ∧ x = nI (96 + d) ∧ x.toNatClampNeg - 96 = d := by
  obtain ⟨j, hj, e⟩ := in_le (n := 122) ⟨Int32.le_trans (by decide : (0 : Int32) ≤ 97) h.1, h.2⟩ rfl
  rw [e] at h
  have h1 := (nI_leI (a := 97) (by decide) (by omega)).mp h.1
  refine ⟨j - 96, by omega, by omega, by rw [e]; congr 1; omega, by rw [e, nI_clamp (by omega)]⟩
theorem or5 {V d : Nat} (hV : V < 33554432) (hd : d < 32) : nL V <<< ((5 : Int32).toInt64 &&& 63) ||| nL d = nL (32 * V + d) := by
  have e := sl_64 (x := V) (k := 5) (by omega) (by decide)
  have e : nL V <<< ((5 : Int32).toInt64 &&& 63) = nL (V * 32) := e
  rw [e]
  refine Int64.toBitVec_inj.mp (BitVec.eq_of_toNat_eq ?_)
  rw [Int64.toBitVec_or, BitVec.toNat_or, nL_tn _ (by omega), nL_tn _ (by omega), nL_tn _ (by omega)]
  have q := Nat.two_pow_add_eq_or_of_lt (i := 5) (b := d) (by omega) V
  have q : 32 * V + d = 32 * V ||| d := q
  rw [Nat.mul_comm V 32, ← q]
theorem rw_is (f : Nat → Int32) (a : Nat) : ∀ m c, (∀ i, i < c → 97 ≤ f (a + i) ∧ f (a + i) ≤ 122) → rwF f m (a + c) (if c ≤ 6 then nL (pkG (lt5 f a) c) else 0) c = if rsm f m (a + c) - a ≤ 6 then nL (pkG (lt5 f a) (rsm f m (a + c) - a)) else 0
  | 0, c, _ => by
    rw [rwF, rsm, Nat.add_sub_cancel_left]
    by_cases z : c ≤ 6
    · rw [if_pos z, if_pos z]
    · rw [if_neg z, if_neg z]
  | m + 1, c, h => by
    rw [rwF, rsm]
    by_cases z : 97 ≤ f (a + c) ∧ f (a + c) ≤ 122
    · rw [if_pos z, if_pos z]
      have h' : ∀ i, i < c + 1 → 97 ≤ f (a + i) ∧ f (a + i) ≤ 122 := fun i hi => by
        by_cases y : i = c
        · subst y; exact z
        · exact h i (by omega)
      have ih := rw_is f a m (c + 1) h'
      obtain ⟨d, d1, d2, d3, d4⟩ := lett_nI z
      have ev : (if c < 6 then (if c ≤ 6 then nL (pkG (lt5 f a) c) else 0) <<< ((5 : Int32).toInt64 &&& 63) ||| (f (a + c) - 96).toInt64 else 0) = (if c + 1 ≤ 6 then nL (pkG (lt5 f a) (c + 1)) else 0) := by
        by_cases y : c < 6
        · have hp : pkG (lt5 f a) c < 33554432 := by
            have q := pkG_lt (g := lt5 f a) c (fun i hi => by
              obtain ⟨d, _, d2, _, d4⟩ := lett_nI (h i hi)
              show (f (a + i)).toNatClampNeg - 96 ≤ 26
              omega)
            have q2 : 32 ^ c ≤ 32 ^ 5 := Nat.pow_le_pow_right (by decide) (by omega)
            omega
          have e1 : (f (a + c) - 96).toInt64 = nL d := by
            rw [d3, show (96 : Int32) = nI 96 from rfl, nI_subN (by omega), Nat.add_sub_cancel_left, nI_nL (by omega)]
          rw [if_pos y, if_pos (by omega), if_pos (by omega), e1, or5 hp (by omega), pkG]
          show nL (32 * pkG (lt5 f a) c + d) = nL (32 * pkG (lt5 f a) c + ((f (a + c)).toNatClampNeg - 96))
          rw [d4]
        · rw [if_neg y, if_neg (by omega)]
      rw [ev]
      exact ih
    · rw [if_neg z, if_neg z, Nat.add_sub_cancel_left]
      by_cases y : c ≤ 6
      · rw [if_pos y, if_pos y]
      · rw [if_neg y, if_neg y]
theorem rsm_w (f : Nat → Int32) : ∀ m k i, k ≤ i → i < rsm f m k → 97 ≤ f i ∧ f i ≤ 122
  | 0, k, i, h1, h2 => by rw [rsm] at h2; omega
  | m + 1, k, i, h1, h2 => by
    rw [rsm] at h2
    by_cases z : 97 ≤ f k ∧ f k ≤ 122
    · rw [if_pos z] at h2
      by_cases y : i = k
      · subst y; exact z
      · exact rsm_w f m (k + 1) i (by omega) h2
    · rw [if_neg z] at h2; omega
def kLen (k : Nat) : Nat := (kByt k).length
abbrev kDg (k i : Nat) : Nat := ((kByt k).getD i 0).toNatClampNeg - 96
theorem k_tab : ∀ k, k < 6 → (kByt k).length ≤ 6 ∧ (∀ i, i < (kByt k).length → (1 ≤ kDg k i ∧ kDg k i ≤ 26) ∧ 97 ≤ (kByt k).getD i 0 ∧ (kByt k).getD i 0 ≤ 122) := by decide +kernel
theorem k_const : pkG (kDg 0) (kByt 0).length = 110765235 ∧ pkG (kDg 1) (kByt 1).length = 22499628 ∧ pkG (kDg 2) (kByt 2).length = 12885268 ∧ pkG (kDg 3) (kByt 3).length = 132528 ∧ pkG (kDg 4) (kByt 4).length = 595572 ∧ pkG (kDg 5) (kByt 5).length = 1574484 := by decide +kernel
theorem weF_is (T : Nat → Int32) (k s : Nat) : ∀ d j, weF T k s d j = true ↔ ∀ i, j ≤ i → i < j + d → T (s + i) = (kByt k).getD i 0
  | 0, j => by
    rw [weF]
    exact ⟨fun _ i h1 h2 => by omega, fun _ => rfl⟩
  | d + 1, j => by
    rw [weF]
    by_cases z : T (s + j) = (kByt k).getD j 0
    · rw [if_pos z, weF_is T k s d (j + 1)]
      constructor
      · intro h i h1 h2
        by_cases y : i = j
        · subst y; exact z
        · exact h i (by omega) (by omega)
      · intro h i h1 h2
        exact h i (by omega) (by omega)
    · rw [if_neg z]
      constructor
      · intro h; exact absurd h (by decide)
      · intro h; exact absurd (h j (Nat.le_refl _) (by omega)) z
/-- a word is a kind's, for class and reference -/
theorem iw_eq {T f : Nat → Int32} {n a k : Nat} (h : BY T f n) (ha : a ≤ n) (hk : k < 6) : iwB T k a (rsm f (n - a) a) = true ↔ pkG (lt5 f a) (rsm f (n - a) a - a) = pkG (kDg k) (kByt k).length := by
  obtain ⟨t1, t2⟩ := k_tab k hk
  have hle := rsm_le f (n - a) a
  have hw := rsm_w f (n - a) a
  unfold iwB
  constructor
  · intro z
    by_cases y : (kByt k).length = rsm f (n - a) a - a
    · rw [if_pos y, weF_is] at z
      rw [← y]
      refine pkG_cg _ (fun i hi => ?_)
      have e := z i (Nat.zero_le _) (by omega)
      have e2 := (h.eq (i := a + i) (by omega) (c := (kByt k).getD i 0) (Int32.le_trans (by decide : (0 : Int32) ≤ 97) (t2 i hi).2.1) (Int32.le_trans (t2 i hi).2.2 (by decide))).mp e
      show (f (a + i)).toNatClampNeg - 96 = _
      rw [e2]
    · rw [if_neg y] at z; exact absurd z (by decide)
  · intro z
    obtain ⟨p, q⟩ := pkG_inj _ _ (fun i hi => by
      obtain ⟨d, d1, d2, d3, d4⟩ := lett_nI (hw (a + i) (by omega) (by omega))
      show 1 ≤ (f (a + i)).toNatClampNeg - 96 ∧ (f (a + i)).toNatClampNeg - 96 ≤ 26
      omega) (fun i hi => (t2 i hi).1) z
    rw [if_pos p.symm, weF_is]
    intro i _ hi
    have e := q i (by omega)
    obtain ⟨d, d1, d2, d3, d4⟩ := lett_nI (hw (a + i) (by omega) (by omega))
    obtain ⟨d', d1', d2', d3', d4'⟩ := lett_nI (t2 i (by omega)).2
    have e3 : d = d' := by
      have e : (f (a + i)).toNatClampNeg - 96 = ((kByt k).getD i 0).toNatClampNeg - 96 := e
      omega
    refine (h.eq (i := a + i) (by omega) (Int32.le_trans (by decide : (0 : Int32) ≤ 97) (t2 i (by omega)).2.1) (Int32.le_trans (t2 i (by omega)).2.2 (by decide))).mpr ?_
    rw [d3, d3', e3]
theorem nL_eq {x y : Nat} (hx : x < 9223372036854775808) (hy : y < 9223372036854775808) : nL x = nL y ↔ x = y := by
  constructor
  · intro z
    have q := congrArg Int64.toInt z
    rw [nL_int hx, nL_int hy] at q
    omega
  · intro z; rw [z]
/-- both find the same kind -/
theorem kd_eq {T f : Nat → Int32} {n a : Nat} {b : Int32} (h : BY T f n) (ha : a ≤ n) (hs : sp f n a = a) : (rwK T n (a, b) = none ∧ rKd f n a = -1) ∨ ∃ j, j < 6 ∧ rwK T n (a, b) = some (10 + j) ∧ rKd f n a = nI j := by
  have e0 : rwE T n (a, b) = rsm f (n - a) a := wd_eq h (n - a) a (by omega)
  have hw := rsm_w f (n - a) a
  have hle := rsm_le f (n - a) a
  have er : rwF f (n - a) a 0 0 = if rsm f (n - a) a - a ≤ 6 then nL (pkG (lt5 f a) (rsm f (n - a) a - a)) else 0 := by
    have q := rw_is f a (n - a) 0 (fun i hi => absurd hi (Nat.not_lt_zero _))
    rw [if_pos (by omega)] at q
    exact q
  unfold rwK rKd
  rw [e0, hs, er]
  have I := fun k hk => iw_eq (T := T) (f := f) (n := n) (a := a) (k := k) h ha hk
  obtain ⟨k0, k1, k2, k3, k4, k5⟩ := k_const
  have i0 := I 0 (by decide)
  have i1 := I 1 (by decide)
  have i2 := I 2 (by decide)
  have i3 := I 3 (by decide)
  have i4 := I 4 (by decide)
  have i5 := I 5 (by decide)
  rw [k0] at i0
  rw [k1] at i1
  rw [k2] at i2
  rw [k3] at i3
  rw [k4] at i4
  rw [k5] at i5
  have hbig : ¬ rsm f (n - a) a - a ≤ 6 → ∀ k, k < 6 → ¬ pkG (lt5 f a) (rsm f (n - a) a - a) = pkG (kDg k) (kByt k).length := fun z k hk y => by
    obtain ⟨t1, t2⟩ := k_tab k hk
    obtain ⟨p, q⟩ := pkG_inj _ _ (fun i hi => by
      obtain ⟨d, d1, d2, d3, d4⟩ := lett_nI (hw (a + i) (by omega) (by omega))
      show 1 ≤ (f (a + i)).toNatClampNeg - 96 ∧ (f (a + i)).toNatClampNeg - 96 ≤ 26
      omega) (fun i hi => (t2 i hi).1) y
    omega
  have hlt : rsm f (n - a) a - a ≤ 6 → pkG (lt5 f a) (rsm f (n - a) a - a) < 9223372036854775808 := fun z => by
    have q := pkG_lt (g := lt5 f a) (rsm f (n - a) a - a) (fun i hi => by
      obtain ⟨d, d1, d2, d3, d4⟩ := lett_nI (hw (a + i) (by omega) (by omega))
      show (f (a + i)).toNatClampNeg - 96 ≤ 26
      omega)
    have q2 : 32 ^ (rsm f (n - a) a - a) ≤ 32 ^ 6 := Nat.pow_le_pow_right (by decide) z
    omega
  have key : ∀ C : Nat, 0 < C → C < 9223372036854775808 → (rsm f (n - a) a - a ≤ 6 ∨ ¬ pkG (lt5 f a) (rsm f (n - a) a - a) = C) → ((if rsm f (n - a) a - a ≤ 6 then nL (pkG (lt5 f a) (rsm f (n - a) a - a)) else 0) = nL C ↔ pkG (lt5 f a) (rsm f (n - a) a - a) = C) := fun C h0 hC hz => by
    by_cases z : rsm f (n - a) a - a ≤ 6
    · rw [if_pos z]; exact nL_eq (hlt z) hC
    · rw [if_neg z]
      constructor
      · intro y
        have y : nL 0 = nL C := y
        have := (nL_eq (by decide) hC).mp y
        omega
      · intro y; exact absurd y (hz.resolve_left z)
  have K : ∀ k C, k < 6 → pkG (kDg k) (kByt k).length = C → 0 < C → C < 9223372036854775808 → (iwB T k a (rsm f (n - a) a) = true ↔ pkG (lt5 f a) (rsm f (n - a) a - a) = C) → ((if rsm f (n - a) a - a ≤ 6 then nL (pkG (lt5 f a) (rsm f (n - a) a - a)) else 0) = nL C ↔ iwB T k a (rsm f (n - a) a) = true) := fun k C hk e h0 hC hi => by
    rw [hi]
    refine key C h0 hC ?_
    by_cases z : rsm f (n - a) a - a ≤ 6
    · exact Or.inl z
    · refine Or.inr ?_
      rw [← e]; exact hbig z k hk
  have j0 := K 0 _ (by decide) k0 (by decide) (by decide) i0
  have j1 := K 1 _ (by decide) k1 (by decide) (by decide) i1
  have j2 := K 2 _ (by decide) k2 (by decide) (by decide) i2
  have j3 := K 3 _ (by decide) k3 (by decide) (by decide) i3
  have j4 := K 4 _ (by decide) k4 (by decide) (by decide) i4
  have j5 := K 5 _ (by decide) k5 (by decide) (by decide) i5
  clear K key hlt hbig i0 i1 i2 i3 i4 i5 I er
  generalize (if rsm f (n - a) a - a ≤ 6 then nL (pkG (lt5 f a) (rsm f (n - a) a - a)) else 0) = P at *
  have j0 : P = 110765235 ↔ iwB T 0 a (rsm f (n - a) a) = true := j0
  have j1 : P = 22499628 ↔ iwB T 1 a (rsm f (n - a) a) = true := j1
  have j2 : P = 12885268 ↔ iwB T 2 a (rsm f (n - a) a) = true := j2
  have j3 : P = 132528 ↔ iwB T 3 a (rsm f (n - a) a) = true := j3
  have j4 : P = 595572 ↔ iwB T 4 a (rsm f (n - a) a) = true := j4
  have j5 : P = 1574484 ↔ iwB T 5 a (rsm f (n - a) a) = true := j5
  unfold kOf
  simp only [kwF, Nat.reduceAdd]
  by_cases z0 : iwB T 0 a (rsm f (n - a) a) = true
  · rw [if_pos z0, if_pos (j0.mpr z0)]; exact Or.inr ⟨0, by decide, rfl, rfl⟩
  rw [if_neg z0, if_neg (fun y => z0 (j0.mp y))]
  by_cases z1 : iwB T 1 a (rsm f (n - a) a) = true
  · rw [if_pos z1, if_pos (j1.mpr z1)]; exact Or.inr ⟨1, by decide, rfl, rfl⟩
  rw [if_neg z1, if_neg (fun y => z1 (j1.mp y))]
  by_cases z2 : iwB T 2 a (rsm f (n - a) a) = true
  · rw [if_pos z2, if_pos (j2.mpr z2)]; exact Or.inr ⟨2, by decide, rfl, rfl⟩
  rw [if_neg z2, if_neg (fun y => z2 (j2.mp y))]
  by_cases z3 : iwB T 3 a (rsm f (n - a) a) = true
  · rw [if_pos z3, if_pos (j3.mpr z3)]; exact Or.inr ⟨3, by decide, rfl, rfl⟩
  rw [if_neg z3, if_neg (fun y => z3 (j3.mp y))]
  by_cases z4 : iwB T 4 a (rsm f (n - a) a) = true
  · rw [if_pos z4, if_pos (j4.mpr z4)]; exact Or.inr ⟨4, by decide, rfl, rfl⟩
  rw [if_neg z4, if_neg (fun y => z4 (j4.mp y))]
  by_cases z5 : iwB T 5 a (rsm f (n - a) a) = true
  · rw [if_pos z5, if_pos (j5.mpr z5)]; exact Or.inr ⟨5, by decide, rfl, rfl⟩
  rw [if_neg z5, if_neg (fun y => z5 (j5.mp y))]
  exact Or.inl ⟨rfl, rfl⟩

