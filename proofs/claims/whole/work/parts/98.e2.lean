theorem rsG_eq {kd ca : Nat → Int32} {x : Int32} (hx : ¬ x < 0) : ∀ i, rsG kd ca x i = if x < rsF kd ca i then rsF kd ca i else x
  | 0 => by rw [rsG, rsF, if_neg hx]
  | i + 1 => by
    rw [rsG, rsF, rsG_eq hx i]
    by_cases k : kd i = 4
    · simp only [k, true_and, if_true]
      generalize rsF kd ca i = f
      generalize ca i = y
      simp only [Int32.lt_iff_toInt_lt]
      repeat' split
      all_goals first
        | rfl
        | omega
    · simp only [k, false_and, if_false]
theorem rsG_congr {kd ca kd' ca' : Nat → Int32} {x : Int32} : ∀ i, (∀ q, q < i → kd q = kd' q ∧ ca q = ca' q) → rsG kd ca x i = rsG kd' ca' x i
  | 0, _ => rfl
  | i + 1, h => by rw [rsG, rsG, rsG_congr i (fun q hq => h q (by omega)), (h i (by omega)).1, (h i (by omega)).2]
theorem raF_nn (w : AW) (c : Nat) : ∀ i, ¬ raF w c i < 0
  | 0 => by show ¬ (0 : Int32) < 0; decide
  | i + 1 => by
    have ih := raF_nn w c i
    rw [raF]
    split
    · exact ih
    · split
      · rename_i h
        simp only [Int32.lt_iff_toInt_lt] at *
        omega
      · exact ih
theorem rest_eq {w : AW} (hC : CIv w) (hc : RLc w) (hw : RLw w) (hl : RLl w) (hk : RLk w) {c : Nat} (hcc : c < ct w 205) : ∀ i, i ≤ ct w (1800 + c) → rkF w c i = raF w c i
  | 0, _ => rfl
  | i + 1, hi => by
    have hm := (ci_works hC).2.2
    have hm4 := (ci_loans hC).2.2
    have ih := rest_eq hC hc hw hl hk hcc i (by omega)
    have e1 := (hk c hcc).2.2.2.1 i (by omega)
    have hn := el_lt (ci_Cr hC hcc).2.2.2.1 (show i < ct w (1800 + c) by omega)
    rw [rkF, raF, e1, nI_clamp (by omega), (hw _ hn).1, force_eq hC hc hl, hc.2.2.2.2.2.1, ih]
    rcases cForce_in w (wI w 641 (1000 + elN w (1800 + c) 1000 i)) (wI w 716 200 / 24) with e | ⟨j, hj, e⟩
    · rw [if_pos e, if_pos e]
    · obtain ⟨-, -, h3, h4⟩ := hl j hj
      have l5 := (ci_L hC hj).2.2.2.2.1
      rw [e, nI_clamp (by omega), if_neg (nI_nm1 (by omega)), if_neg (nI_nm1 (by omega)), h3, nI_clamp (by omega)]
      rw [rsG_congr (kd' := cKd w j) (ca' := cKa w j) _ (fun q hq => ⟨(h4 q hq).1, (h4 q hq).2.1⟩), rsG_eq (raF_nn w c i)]
      rfl
theorem and_1 (y : Int32) : y &&& 1 = 0 ∨ y &&& 1 = 1 := by
  rw [← Int32.toBitVec_inj, ← Int32.toBitVec_inj, Int32.toBitVec_and]
  show y.toBitVec &&& 1#32 = 0#32 ∨ y.toBitVec &&& 1#32 = 1#32
  rw [BitVec.and_one_eq_setWidth_ofBool_getLsbD]
  cases y.toBitVec.getLsbD 0
  · exact Or.inl (by decide)
  · exact Or.inr (by decide)
theorem and_01 (y : Int32) : (y &&& 1 = 0) = ¬ (y &&& 1 = 1) := by
  rcases and_1 y with h | h
  · rw [h]; exact propext ⟨fun _ => by decide, fun _ => rfl⟩
  · rw [h]; exact propext ⟨fun z => absurd z (by decide), fun z => absurd rfl z⟩
theorem ruF_eq {f g : Nat → Int32} {s x : Int32} : ∀ k, (∀ i, i < k → f i = g i) → ruF f s x k = smF g s k + x
  | 0, _ => by rw [ruF, smF, Int32.zero_add]
  | k + 1, h => by
    rw [ruF, smF, ruF_eq k (fun i hi => h i (by omega)), h k (by omega)]
    by_cases c : s >>> (nI k &&& 31) &&& 1 = 1
    · have c0 : ¬ (s >>> (nI k &&& 31) &&& 1 = 0) := fun z => by rw [and_01] at z; exact z c
      rw [if_neg c0, if_pos c, Int32.add_assoc, Int32.add_comm x, ← Int32.add_assoc]
    · have c0 : s >>> (nI k &&& 31) &&& 1 = 0 := by rw [and_01]; exact c
      rw [if_pos c0, if_neg c]
theorem many_eq : ∀ k, k < 32 → ruF (fun _ => 1) (nI k) 0 5 = bcI (nI k) := by decide +kernel
theorem sm0 (f : Nat → Int32) : smF f 0 5 = 0 := by
  have z : ∀ k, k < 5 → ¬ ((0 : Int32) >>> (nI k &&& 31) &&& 1 = 1) := by decide
  rw [smF, if_neg (z 4 (by decide)), smF, if_neg (z 3 (by decide)), smF, if_neg (z 2 (by decide)), smF, if_neg (z 1 (by decide)), smF, if_neg (z 0 (by decide)), smF]
theorem and_no (s x y : Int32) : (s &&& ((x &&& y) ^^^ -1) = 0) = (s &&& (x ^^^ -1) = 0 ∧ s &&& (y ^^^ -1) = 0) := by
  have key : ∀ a b c : BitVec 32, (a &&& ((b &&& c) ^^^ -1#32) = 0#32) ↔ (a &&& (b ^^^ -1#32) = 0#32 ∧ a &&& (c ^^^ -1#32) = 0#32) := by
    intro a b c
    rw [show (-1#32 : BitVec 32) = BitVec.allOnes 32 by decide]
    have bt : ∀ (p q : BitVec 32), (p &&& (q ^^^ BitVec.allOnes 32) = 0#32) ↔ ∀ i, i < 32 → (p.getLsbD i && !(q.getLsbD i)) = false := by
      intro p q
      constructor
      · intro h i hi
        have := congrArg (fun z => BitVec.getLsbD z i) h
        simp only [BitVec.getLsbD_and, BitVec.getLsbD_xor, BitVec.getLsbD_allOnes, hi, decide_true, Bool.xor_true, BitVec.getLsbD_zero] at this
        exact this
      · intro h
        apply BitVec.eq_of_getLsbD_eq
        intro i hi
        rw [BitVec.getLsbD_and, BitVec.getLsbD_xor, BitVec.getLsbD_allOnes, BitVec.getLsbD_zero, decide_eq_true hi, Bool.xor_true]
        exact h i hi
    rw [bt, bt, bt]
    constructor
    · intro h
      refine ⟨fun i hi => ?_, fun i hi => ?_⟩
      · have := h i hi
        rw [BitVec.getLsbD_and] at this
        revert this
        cases a.getLsbD i <;> cases b.getLsbD i <;> cases c.getLsbD i <;> decide
      · have := h i hi
        rw [BitVec.getLsbD_and] at this
        revert this
        cases a.getLsbD i <;> cases b.getLsbD i <;> cases c.getLsbD i <;> decide
    · intro ⟨h1, h2⟩ i hi
      have h1 := h1 i hi
      have h2 := h2 i hi
      rw [BitVec.getLsbD_and]
      revert h1 h2
      cases a.getLsbD i <;> cases b.getLsbD i <;> cases c.getLsbD i <;> decide
  refine propext ?_
  have k := key s.toBitVec x.toBitVec y.toBitVec
  rw [← Int32.toBitVec_inj, ← Int32.toBitVec_inj, ← Int32.toBitVec_inj]
  exact k
