/-- the works that bits tell -/
def bP (b : Int32) (k : Nat) : Bool := decide (b >>> (nI k &&& 31) &&& 1 = 1)
theorem seR_eq (b : Int32) : ∀ d k l, l.length ≤ 7 → seR b d k l = if l.length + ((List.range' k d).filter (bP b)).length ≤ 7 then some (l ++ (List.range' k d).filter (bP b)) else none
  | 0, k, l, hl => by
    rw [seR, List.range'_zero, List.filter_nil, List.append_nil, if_pos (by simpa using hl)]
  | d + 1, k, l, hl => by
    rw [seR, List.range'_succ, List.filter_cons]
    by_cases c : b >>> (nI k &&& 31) &&& 1 = 0
    · have c1 : bP b k = false := by unfold bP; rw [decide_eq_false_iff_not]; rw [and_01] at c; exact c
      rw [if_pos c, c1, seR_eq b d (k + 1) l hl]
      simp only [Bool.false_eq_true, if_false]
    · have c1 : bP b k = true := by unfold bP; rw [decide_eq_true_eq]; rw [and_01] at c; exact Classical.not_not.mp c
      rw [if_neg c, c1]
      simp only [if_true, List.length_cons]
      by_cases h7 : l.length = 7
      · rw [if_pos h7, if_neg (by omega)]
      · rw [if_neg h7, seR_eq b d (k + 1) (l ++ [k]) (by rw [List.length_append]; simp; omega)]
        simp only [List.length_append, List.length_cons, List.length_nil, List.append_assoc, List.cons_append, List.nil_append]
        by_cases g : l.length + ((List.range' (k + 1) d).filter (bP b)).length + 1 ≤ 7
        · rw [if_pos (by omega), if_pos (by omega)]
        · rw [if_neg (by omega), if_neg (by omega)]
theorem fil_succ (b : Int32) (N : Nat) : (List.range (N + 1)).filter (bP b) = if bP b N = true then (List.range N).filter (bP b) ++ [N] else (List.range N).filter (bP b) := by
  rw [List.range_succ, List.filter_append]
  split
  · rename_i h; rw [List.filter_cons, if_pos h, List.filter_nil]
  · rename_i h; rw [List.filter_cons, if_neg h, List.filter_nil, List.append_nil]
theorem slF_eq (b : Int32) : ∀ N, ((List.range N).filter (bP b)).length ≤ 7 → slF b N = (List.range N).filter (bP b)
  | 0, _ => rfl
  | N + 1, h => by
    have e := fil_succ b N
    rw [slF, e]
    rw [e] at h
    by_cases c : b >>> (nI N &&& 31) &&& 1 = 1
    · have c1 : bP b N = true := decide_eq_true c
      rw [if_pos c1] at h ⊢
      rw [List.length_append, List.length_cons, List.length_nil] at h
      rw [slF_eq b N (by omega), if_pos ⟨c, by omega⟩]
    · have c1 : ¬ bP b N = true := fun z => c (of_decide_eq_true z)
      rw [if_neg c1] at h ⊢
      rw [if_neg (fun z => c z.1), slF_eq b N h]
theorem cb_len (b : Int32) : ∀ N, N ≤ 32 → ((List.range N).filter (bP b)).length = cbN (tn b) N
  | 0, _ => rfl
  | N + 1, h => by
    rw [fil_succ, cbN, ← cb_len b N (by omega)]
    have q := bitI (b := b) (k := N) (by omega)
    have q2 : b.toBitVec.getLsbD N = (tn b).testBit N := rfl
    rw [q2, Nat.testBit_eq_decide_div_mod_eq, decide_eq_true_eq] at q
    by_cases c : b >>> (nI N &&& 31) &&& 1 = 1
    · have c1 : bP b N = true := decide_eq_true c
      rw [if_pos c1, List.length_append, q.mp c]; rfl
    · have c1 : ¬ bP b N = true := fun z => c (of_decide_eq_true z)
      have c2 : ¬ (tn b / 2 ^ N % 2 = 1) := fun z => c (q.mpr z)
      rw [if_neg c1]
      generalize tn b / 2 ^ N = y at *
      omega
/-- bits of works that are there -/
theorem bP_hi {b : Int32} {N k : Nat} (h : tn b < 2 ^ N) (hk : N ≤ k) (hk2 : k < 32) : bP b k = false := by
  unfold bP
  rw [decide_eq_false_iff_not, bitI hk2]
  have q2 : b.toBitVec.getLsbD k = (tn b).testBit k := rfl
  rw [q2, Nat.testBit_lt_two_pow (Nat.lt_of_lt_of_le h (Nat.pow_le_pow_right (by decide) hk))]
  decide
theorem fil_hi {b : Int32} {N : Nat} (h : tn b < 2 ^ N) : ∀ d, N + d ≤ 32 → (List.range (N + d)).filter (bP b) = (List.range N).filter (bP b)
  | 0, _ => rfl
  | d + 1, hd => by
    rw [← Nat.add_assoc, fil_succ, if_neg (by rw [bP_hi h (Nat.le_add_right _ _) (by omega)]; decide), fil_hi h d (by omega)]
theorem tn_nI {k : Nat} (h : k < 4294967296) : tn (nI k) = k := by
  show (BitVec.ofNat 32 k).toNat = k
  rw [BitVec.toNat_ofNat]; omega
theorem se_sl {b : Int32} {N : Nat} (h : tn b < 2 ^ N) (hN : N ≤ 31) : (7 < bcI b → seR b 31 0 [] = none) ∧ (¬ 7 < bcI b → seR b 31 0 [] = some (slF b N)) ∧ (¬ 7 < bcI b → (slF b N).length ≤ 7) := by
  have e := bc_cb b
  rw [← cb_len b 32 (Nat.le_refl _), show 32 = N + (32 - N) by omega, fil_hi h (32 - N) (by omega)] at e
  have e31 : (List.range 31).filter (bP b) = (List.range N).filter (bP b) := by
    have := fil_hi h (31 - N) (by omega)
    rwa [show N + (31 - N) = 31 by omega] at this
  have hl : ((List.range N).filter (bP b)).length ≤ 31 := Nat.le_trans (List.length_filter_le _ _) (by rw [List.length_range]; exact hN)
  have s := seR_eq b 31 0 [] (by decide)
  rw [← List.range_eq_range', e31] at s
  have hb : 7 < bcI b ↔ 7 < tn (bcI b) := by
    have e2 : bcI b = nI (tn (bcI b)) := by
      rw [← Int32.toBitVec_inj]
      apply BitVec.eq_of_toNat_eq
      show tn (bcI b) = tn (nI (tn (bcI b)))
      rw [tn_nI (by omega)]
    constructor
    · intro z
      rw [e2] at z
      exact (nI_ltI (a := 7) (by decide) (by omega)).mp z
    · intro z
      rw [e2]
      exact (nI_ltI (a := 7) (by decide) (by omega)).mpr z
  rw [hb, e]
  refine ⟨fun z => ?_, fun z => ?_, fun z => ?_⟩
  · rw [s, if_neg (by simp only [List.length_nil]; omega)]
  · rw [s, if_pos (by simp only [List.length_nil]; omega), slF_eq b N (by omega)]; rfl
  · rw [slF_eq b N (by omega)]; omega
theorem sl_aw {w : AW} (b : Int32) {f : Nat → Int32} : ∀ N, (∀ k, k < N → f k = wI w 642 (1000 + k)) → (slF b N = [] → slL w b N = 0) ∧ (¬ slF b N = [] → slL w b N = awR f (slF b N))
  | 0, _ => ⟨fun _ => rfl, fun z => absurd rfl z⟩
  | N + 1, h => by
    obtain ⟨i1, i2⟩ := sl_aw (w := w) b N (fun k hk => h k (by omega))
    rw [slF, slL]
    by_cases c : b >>> (nI N &&& 31) &&& 1 = 1 ∧ (slF b N).length < 7
    · rw [if_pos c, if_pos c]
      refine ⟨fun z => absurd z (by simp), fun _ => ?_⟩
      by_cases e : slF b N = []
      · rw [i1 e, e, awR, ← h N (by omega)]
        show 0 + (f N + 0) = -30 + (f N + 30)
        rw [Int32.add_zero, Int32.zero_add, Int32.add_comm (f N), ← Int32.add_assoc, show (-30 : Int32) + 30 = 0 from rfl, Int32.zero_add]
      · rw [i2 e, if_neg (fun z => e (List.length_eq_zero_iff.mp z)), ← h N (by omega)]
        unfold awR
        rw [List.foldl_append]; rfl
    · rw [if_neg c, if_neg c]
      exact ⟨i1, i2⟩
theorem ar_is {w : AW} (hC : CIv w) : (if 31 < nI (ct w 201) then 31 else nI (ct w 201)) = nI (arN w) := by
  have hm := (ci_works hC).2.2
  unfold arN
  by_cases c : ct w 201 < 31
  · have z : ¬ (31 : Int32) < nI (ct w 201) := Int32.not_lt.mpr ((nI_leI (a := ct w 201) (b := 31) (by omega) (by decide)).mpr (by omega))
    rw [if_pos c, if_neg z]
  · rw [if_neg c]
    by_cases c2 : ct w 201 = 31
    · rw [c2]; decide
    · have z : (31 : Int32) < nI (ct w 201) := Int32.not_le.mp (nI_ge (a := 31) (b := ct w 201) (by omega) (by omega))
      rw [if_pos z]; rfl
theorem shz_iff {b : Int32} {N : Nat} (hN : N < 32) : (b.toUInt32 >>> ((nI N).toUInt32 &&& Int32.toUInt32 31)).toInt32 = 0 ↔ tn b < 2 ^ N := by
  refine ⟨shz hN, fun h => ?_⟩
  rw [← Int32.toBitVec_inj]
  apply BitVec.eq_of_toNat_eq
  show tn (b.toUInt32 >>> ((nI N).toUInt32 &&& Int32.toUInt32 31)).toInt32 = 0
  rw [tn_shr b N hN]
  exact Nat.div_eq_of_lt h
theorem nn_iff (b : Int32) : 0 ≤ b ↔ tn b < 2 ^ 31 := by
  rw [Int32.le_iff_toInt_le, show (0 : Int32).toInt = 0 from rfl, ← Int32.toInt_toBitVec, BitVec.toInt_eq_toNat_cond]
  have := tn_lt b
  unfold tn at *
  split <;> omega
theorem ash_iff {b : Int32} {N : Nat} (hb : tn b < 2 ^ 31) (hN : N < 32) : b >>> (nI N &&& 31) = 0 ↔ tn b < 2 ^ N := by
  rw [← Int32.toBitVec_inj, Int32.toBitVec_shiftRight, nk N hN]
  show BitVec.sshiftRight b.toBitVec (BitVec.ofNat 32 N).toNat = 0#32 ↔ _
  rw [BitVec.toNat_ofNat, Nat.mod_eq_of_lt (by omega), BitVec.sshiftRight_eq_of_msb_false (by rw [BitVec.msb_eq_decide]; exact decide_eq_false (by show ¬ 2 ^ 31 ≤ tn b; omega))]
  rw [← BitVec.toNat_inj, BitVec.toNat_ushiftRight, Nat.shiftRight_eq_div_pow]
  show tn b / 2 ^ N = 0 ↔ _
  exact Nat.div_eq_zero_iff_lt (Nat.pow_pos (by decide))
theorem are_iff {w : AW} (hC : CIv w) (b : Int32) : ((b.toUInt32 >>> ((if 31 < nI (ct w 201) then 31 else nI (ct w 201)).toUInt32 &&& Int32.toUInt32 31)).toInt32 = 0 ↔ tn b < 2 ^ arN w) ∧ ((0 ≤ b ∧ (31 ≤ nI (ct w 201) ∨ b >>> (nI (ct w 201) &&& 31) = 0)) ↔ tn b < 2 ^ arN w) := by
  have hm := (ci_works hC).2.2
  have hN : arN w ≤ 31 := by unfold arN; split <;> omega
  rw [ar_is hC, shz_iff (by omega), nn_iff]
  refine ⟨Iff.rfl, ?_⟩
  unfold arN
  have e : (31 : Int32) ≤ nI (ct w 201) ↔ 31 ≤ ct w 201 := nI_leI (a := 31) (by decide) (by omega)
  rw [e]
  by_cases c : ct w 201 < 31
  · rw [if_pos c]
    constructor
    · rintro ⟨h1, h2⟩
      rcases h2 with h2 | h2
      · omega
      · exact (ash_iff h1 (by omega)).mp h2
    · intro h
      have h31 : tn b < 2 ^ 31 := Nat.lt_of_lt_of_le h (Nat.pow_le_pow_right (by decide) (by omega))
      exact ⟨h31, Or.inr ((ash_iff h31 (by omega)).mpr h)⟩
  · rw [if_neg c]
    exact ⟨fun z => z.1, fun z => ⟨z, Or.inl (by omega)⟩⟩
/-- worlds that differ in nothing that the relation speaks of -/
def IRR (u w : AW) : Prop := wT u = wT w ∧ wR u = wR w ∧ wN u = wN w ∧ wL u = wL w ∧ wP u = wP w ∧ (∀ k x, k ∉ [263, 264, 768, 799, 800, 801, 823, 824] → wI u k x = wI w k x) ∧ ∀ t, t ∉ [153, 154, 155, 215, 216, 217, 218, 219, 220, 221] → wA u t = wA w t
theorem IRR.ss {u w : AW} (g : IRR u w) : SS [263, 264, 768, 799, 800, 801, 823, 824] u w := ⟨g.1, g.2.1, g.2.2.1, g.2.2.2.1, g.2.2.2.2.1, g.2.2.2.2.2.1⟩
theorem IRR.trans {a b c : AW} (g : IRR a b) (g' : IRR b c) : IRR a c := ⟨g.1.trans g'.1, g.2.1.trans g'.2.1, g.2.2.1.trans g'.2.2.1, g.2.2.2.1.trans g'.2.2.2.1, g.2.2.2.2.1.trans g'.2.2.2.2.1, fun k x hk => (g.2.2.2.2.2.1 k x hk).trans (g'.2.2.2.2.2.1 k x hk), fun t ht => (g.2.2.2.2.2.2 t ht).trans (g'.2.2.2.2.2.2 t ht)⟩
theorem irr_big {t : Nat} (h : 1000 ≤ t) : t ∉ [153, 154, 155, 215, 216, 217, 218, 219, 220, 221] := by
  simp only [List.mem_cons, List.not_mem_nil, or_false]
  omega
set_option maxHeartbeats 1000000 in
theorem Rel.cg {n : Nat} {u w : AW} (h : Rel n w) (g : IRR u w) : Rel n u := by
  have gs := g.ss
  obtain ⟨hT, hR, hN, hL, hP, hI, hA⟩ := g
  have hA5 : ∀ q, wA u (1500 + q) = wA w (1500 + q) := fun q => hA _ (irr_big (by omega))
  have hA6 : ∀ q, wA u (1600 + q) = wA w (1600 + q) := fun q => hA _ (irr_big (by omega))
  refine ⟨?_, ?_, ?_, ?_, ?_, ?_, ?_, ?_, ?_, ?_, ?_, ?_, ?_, ?_, ?_, ?_, ?_, ?_, ?_, ?_, ?_⟩
  · rw [gs.ci (by decide) (by decide) (by decide) (by decide)]; exact h.ci
  · have q := h.ri; unfold RI at *; rw [hT, hR, hN]; exact q
  · have q := h.rb; unfold RB at *; simp (disch := decide) only [hI, hA]; exact q
  · have q := h.c; unfold RLc ct at *; simp (disch := decide) only [hI, hA, hL]; exact q
  · have q := h.wk; unfold RLw ct at *; simp (disch := decide) only [hI, hA, hL]; exact q
  · have q := h.l; unfold RLl kdN ct at *; simp (disch := decide) only [hI, hA, hL, hR]; exact q
  · have q := h.r; unfold RLr elN ct at *; simp (disch := decide) only [hI, hA, hL]; exact q
  · have q := h.k; unfold RLk elN ct at *; simp (disch := decide) only [hI, hA, hL]; exact q
  · have q := h.u; unfold RLu at *; simp (disch := decide) only [hA]; exact q
  · have q := h.s; unfold RLs ct at *; simp (disch := decide) only [hA, hL, hA5, hA6]; exact q
  · have q := h.a; unfold RLa ct at *; simp (disch := decide) only [hI, hA, hL, hR]; exact q
  · have q := h.g; unfold RLg ct at *; simp (disch := decide) only [hI, hA, hL, hR]; exact q
  · have q := h.d; unfold RLd ct at *; simp (disch := decide) only [hI, hA, hL, hR]; exact q
  · have q := h.n
    have e : lnV u = lnV w := by funext z; unfold lnV; simp (disch := decide) only [hI]
    unfold RLn ct at *; simp (disch := decide) only [hI, hA, hL, hR, e]; exact q
  · have q := h.m; unfold RLm ct at *; simp (disch := decide) only [hI, hA, hL, hR]; exact q
  · have q := h.t; unfold RLt at *; simp (disch := decide) only [hI, hA]; exact q
  · have q := h.b; unfold RLb at *; simp (disch := decide) only [hI, hA]; exact q
  · have q := h.f; unfold RLf ct at *; simp (disch := decide) only [hI, hT, hL]; exact q
  · have q := h.v; unfold RLv ct at *; simp (disch := decide) only [hI, hA, hL]; exact q
  · have q := h.z; unfold RLz ct at *; simp (disch := decide) only [hI, hA, hL]; exact q
  · have q := h.o; unfold RLo at *; rw [hT, hN]; exact q

