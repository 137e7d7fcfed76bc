theorem nI_bit {p i : Nat} (hi : i < 32) : (nI p).toBitVec.getLsbD i = p.testBit i := by
  show (BitVec.ofNat 32 p).getLsbD i = _
  rw [BitVec.getLsbD_ofNat, decide_eq_true hi, Bool.true_and]
theorem sub_iff (p q : Nat) : (nI p &&& (nI q ^^^ -1) = 0) ↔ ∀ i, i < 32 → p.testBit i = true → q.testBit i = true := by
  rw [← Int32.toBitVec_inj]
  show ((nI p).toBitVec &&& ((nI q).toBitVec ^^^ -1#32) = 0#32) ↔ _
  rw [show (-1#32 : BitVec 32) = BitVec.allOnes 32 by decide]
  constructor
  · intro h i hi hp
    have := congrArg (fun z => BitVec.getLsbD z i) h
    simp only [BitVec.getLsbD_and, BitVec.getLsbD_xor, BitVec.getLsbD_allOnes, hi, decide_true, Bool.xor_true, BitVec.getLsbD_zero, nI_bit hi, hp, Bool.true_and] at this
    revert this
    cases q.testBit i <;> decide
  · intro h
    apply BitVec.eq_of_getLsbD_eq
    intro i hi
    rw [BitVec.getLsbD_and, BitVec.getLsbD_xor, BitVec.getLsbD_allOnes, BitVec.getLsbD_zero, decide_eq_true hi, Bool.xor_true, nI_bit hi, nI_bit hi]
    have := h i hi
    revert this
    cases p.testBit i <;> cases q.testBit i <;> decide
/-- the works of a chapter, as bits -/
theorem mt_mask {c : Nat → Int32} {i : Nat} (hi : i < 7) : ∀ z, z ≤ 7 → ∃ m, m < 128 ∧ mtI c i z = nI m ∧ ∀ y, m.testBit y = true ↔ (y = i ∨ (y < z ∧ ¬ c i = 0 ∧ c i = c y))
  | 0, _ => by
    refine ⟨2 ^ i, (hb_p6 i hi).2, hb_sh i (by omega), fun y => ?_⟩
    rw [Nat.testBit_two_pow, decide_eq_true_iff]
    constructor
    · intro h; exact Or.inl h.symm
    · rintro (h | h)
      · exact h.symm
      · omega
  | z + 1, hz => by
    obtain ⟨m, h1, h2, h3⟩ := mt_mask hi z (by omega)
    rw [mtI]
    by_cases g : ¬ c i = 0 ∧ c i = c z
    · rw [if_pos g]
      obtain ⟨f1, f2⟩ := hb_or m h1 z (by omega)
      refine ⟨m ||| 2 ^ z, f2, by rw [h2, f1], fun y => ?_⟩
      rw [hb_or2, h3 y]
      constructor
      · rintro ((h | h) | h)
        · exact Or.inl h
        · exact Or.inr ⟨by omega, h.2⟩
        · exact Or.inr ⟨by omega, by rw [h]; exact g⟩
      · rintro (h | h)
        · exact Or.inl (Or.inl h)
        · by_cases e : y = z
          · exact Or.inr e
          · exact Or.inl (Or.inr ⟨by omega, h.2⟩)
    · rw [if_neg g]
      refine ⟨m, h1, h2, fun y => (h3 y).trans ?_⟩
      constructor
      · rintro (h | h)
        · exact Or.inl h
        · exact Or.inr ⟨by omega, h.2⟩
      · rintro (h | h)
        · exact Or.inl h
        · by_cases e : y = z
          · rw [e] at h; exact absurd h.2 g
          · exact Or.inr ⟨by omega, h.2⟩
/-- x may come behind l where the set S stands -/
def Fol (z : Nat) (c : Nat → Int32) (ap : Nat → Nat → Bool) (S : Nat) (l x : Nat) : Prop := S.testBit x = false ∧ ap l x = false ∧ ((∀ y, y < z → (y = l ∨ (¬ c l = 0 ∧ c l = c y)) → S.testBit y = true) ∨ (x = l ∨ (¬ c l = 0 ∧ c l = c x)))
/-- the bits of a row of the hanger say who is kept apart -/
def APR (z : Nat) (a : Nat → Int32) (ap : Nat → Nat → Bool) : Prop := ∀ x, x < z → ∃ m, m < 128 ∧ a x = nI m ∧ ∀ y, y < z → (m.testBit y = true ↔ x ≠ y ∧ ap x y = true)
theorem fol_iff {z : Nat} {c a : Nat → Int32} {ap : Nat → Nat → Bool} (hz : z ≤ 7) (ha : APR z a ap) {S l x : Nat} (hS : S < 128) (hl : l < z) (hx : x < z) (hSl : S.testBit l = true) (hS7 : ∀ y, S.testBit y = true → y < z) : mfP (fun i => mtI c i z) a (nI S) (nI l) (nI x) ↔ Fol z c ap S l x := by
  obtain ⟨m, h1, h2, h3⟩ := mt_mask (c := c) (i := l) (by omega) z hz
  obtain ⟨q, g1, g2, g3⟩ := ha l hl
  unfold mfP Fol
  rw [nI_clamp (show l < 2 ^ 31 by omega), g2]
  show (_ ∧ _) ∧ (mtI c l z &&& _ = 0 ∨ mtI c l z >>> _ &&& 1 = 1) ↔ _
  rw [h2, (hb_bit S hS x (by omega)).2, (hb_bit q g1 x (by omega)).2, (hb_bit m h1 x (by omega)).1, sub_iff, h3 x]
  constructor
  · rintro ⟨⟨b1, b2⟩, b3⟩
    have hne : l ≠ x := fun e => by rw [e, b1] at hSl; exact absurd hSl (by decide)
    refine ⟨b1, ?_, ?_⟩
    · cases h : ap l x
      · rfl
      · have := (g3 x hx).mpr ⟨hne, h⟩
        rw [b2] at this; exact absurd this (by decide)
    · rcases b3 with b3 | b3
      · refine Or.inl (fun y hy hm => b3 y (by omega) ((h3 y).mpr ?_))
        rcases hm with hm | hm
        · exact Or.inl hm
        · exact Or.inr ⟨hy, hm⟩
      · exact Or.inr (b3.elim Or.inl (fun b => Or.inr b.2))
  · rintro ⟨b1, b2, b3⟩
    refine ⟨⟨b1, ?_⟩, ?_⟩
    · cases h : q.testBit x
      · rfl
      · have := ((g3 x hx).mp h).2
        rw [b2] at this; exact absurd this (by decide)
    · rcases b3 with b3 | b3
      · refine Or.inl (fun y _ hm => ?_)
        rcases (h3 y).mp hm with hm | hm
        · rw [hm]; exact hSl
        · exact b3 y hm.1 (Or.inr hm.2)
      · exact Or.inr (b3.elim Or.inl (fun b => Or.inr ⟨hx, b⟩))
