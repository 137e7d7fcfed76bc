/-! ===== class and reference hold the same ===== -/
def RLc (w : AW) : Prop := wI w 770 100 = nI (ct w 201) ∧ wI w 787 100 = nI (ct w 202) ∧ wI w 784 100 = nI (ct w 203) ∧ wI w 798 100 = nI (ct w 204) ∧ wI w 809 100 = nI (ct w 205) ∧ wI w 769 100 = wI w 716 200 ∧ wI w 797 100 = wI w 715 200
def RLw (w : AW) : Prop := ∀ n, n < ct w 201 → wA w 105 n = wI w 641 (1000 + n) ∧ wA w 106 n = wI w 642 (1000 + n) ∧ wA w 107 n = wI w 643 (1000 + n) ∧ wA w 108 n = wI w 644 (1000 + n) ∧ wA w 109 n = wI w 645 (1000 + n) ∧ wA w 110 n = wI w 647 (1000 + n) ∧ wA w 111 n = wI w 648 (1000 + n) ∧ wA w 112 n = wI w 649 (1000 + n)
def RLl (w : AW) : Prop := ∀ k, k < ct w 204 → wA w 136 k = wI w 385 (1900 + k) ∧ wA w 137 k = wI w 386 (1900 + k) ∧ wA w 138 k = nI (ct w (2000 + k)) ∧ ∀ i, i < ct w (2000 + k) → wA w 139 (10 * k + i) = nI (kdN w (2100 + 10 * k + i)) ∧ wA w 140 (10 * k + i) = wI w 129 (2100 + 10 * k + i) ∧ wA w 141 (10 * k + i) = wI w 130 (2100 + 10 * k + i)
theorem pF_congr {l l' d d' : Nat → Int32} {a t : Int32} : ∀ {N : Nat}, N < 2 ^ 31 → (∀ i, i < N → l i = l' i ∧ d i = d' i) → pF l d a t N = pF l' d' a t N
  | 0, _, _ => rfl
  | N + 1, hN, h => by
    have ih := pF_congr (N := N) (l := l) (l' := l') (d := d) (d' := d') (a := a) (t := t) (by omega) (fun i hi => h i (by omega))
    rw [pF, pF, ih, (h N (by omega)).1, (h N (by omega)).2]
    rcases pF_in l' d' a t N with e | ⟨j, hj, e⟩
    · rw [e]
      simp only [true_or]
    · rw [e, nI_clamp (by omega), (h j (by omega)).2]
theorem fstI_congr {p p' : Nat → Bool} : ∀ m k, (∀ i, k ≤ i → i < k + m → p i = p' i) → fstI p m k = fstI p' m k
  | 0, _, _ => rfl
  | m + 1, k, h => by rw [fstI, fstI, h k (Nat.le_refl _) (by omega), fstI_congr m (k + 1) (fun i h1 h2 => h i (by omega) (by omega))]
theorem anyF_congr {p p' : Nat → Bool} : ∀ m k, (∀ i, k ≤ i → i < k + m → p i = p' i) → anyF p m k = anyF p' m k
  | 0, _, _ => rfl
  | m + 1, k, h => by rw [anyF, anyF, h k (Nat.le_refl _) (by omega), anyF_congr m (k + 1) (fun i h1 h2 => h i (by omega) (by omega))]
theorem force_eq {w : AW} (hC : CIv w) (hc : RLc w) (hl : RLl w) (a d : Int32) : rForce w a d = cForce w a d := by
  have hm := (ci_loans hC).2.2
  unfold rForce cForce
  rw [hc.2.2.2.1, nI_clamp (by omega)]
  exact pF_congr (by omega) (fun i hi => ⟨(hl i hi).1, (hl i hi).2.1⟩)
theorem bars_eq {w : AW} (hC : CIv w) (hc : RLc w) (hw : RLw w) (hl : RLl w) {n : Nat} (hn : n < ct w 201) (c d : Int32) : rBars w (nI n) c d = cBars w n c d := by
  have hm := (ci_works hC).2.2
  have hm4 := (ci_loans hC).2.2
  unfold rBars cBars
  rw [nI_clamp (by omega), (hw n hn).1, (hw n hn).2.2.2.2.2.2.2, force_eq hC hc hl]
  rcases cForce_in w (wI w 641 (1000 + n)) d with e | ⟨j, hj, e⟩
  · rw [if_pos e, if_pos e]
  · obtain ⟨-, -, h3, h4⟩ := hl j hj
    have l5 := (ci_L hC hj).2.2.2.2.1
    rw [e, nI_clamp (by omega), if_neg (nI_nm1 (by omega)), if_neg (nI_nm1 (by omega)), h3, nI_clamp (by omega)]
    refine fstI_congr _ _ (fun i _ hi => ?_)
    have hi : i < ct w (2000 + j) := by omega
    show bq (wA w 139 (10 * j + i)) (wA w 140 (10 * j + i)) c d _ = bq (cKd w j i) (cKa w j i) c d _
    rw [(h4 i hi).1, (h4 i hi).2.1]; rfl
theorem names_eq {w : AW} (hC : CIv w) (hc : RLc w) (hw : RLw w) (hl : RLl w) {a b : Nat} (ha : a < ct w 201) (hb : b < ct w 201) : rNames w (nI a) (nI b) = cNames w a b := by
  have hm := (ci_works hC).2.2
  have hm4 := (ci_loans hC).2.2
  unfold rNames cNames
  rw [nI_clamp (by omega), nI_clamp (by omega), (hw a ha).1, (hw b hb).1, force_eq hC hc hl, hc.2.2.2.2.2.1]
  rcases cForce_in w (wI w 641 (1000 + a)) (wI w 716 200 / 24) with e | ⟨j, hj, e⟩
  · rw [if_pos e, if_pos e]
  · obtain ⟨-, -, h3, h4⟩ := hl j hj
    have l5 := (ci_L hC hj).2.2.2.2.1
    rw [e, nI_clamp (by omega), if_neg (nI_nm1 (by omega)), if_neg (nI_nm1 (by omega)), h3, nI_clamp (by omega)]
    unfold cKeeps
    refine anyF_congr _ _ (fun i _ hi => ?_)
    have hi : i < ct w (2000 + j) := by omega
    show decide (wA w 139 (10 * j + i) = 5 ∧ wA w 140 (10 * j + i) = _) = decide (cKd w j i = 5 ∧ cKa w j i = _)
    rw [(h4 i hi).1, (h4 i hi).2.1]; rfl
theorem apart_eq {w : AW} (hC : CIv w) (hc : RLc w) (hw : RLw w) (hl : RLl w) {a b : Nat} (ha : a < ct w 201) (hb : b < ct w 201) : rApart w (nI a) (nI b) = cApart w a b := by
  unfold rApart cApart
  rw [names_eq hC hc hw hl ha hb, names_eq hC hc hw hl hb ha]
/-- what the wall, the crates and the rooms hold -/
def RLr (w : AW) : Prop := ∀ r, r < ct w 202 → wA w 121 r = wI w 512 (1200 + r) ∧ wA w 122 r = wI w 513 (1200 + r) ∧ wA w 123 r = wI w 514 (1200 + r) ∧ wA w 124 r = wI w 515 (1200 + r) ∧ wA w 125 r = wI w 516 (1200 + r) ∧ wA w 127 r = wI w 522 (1200 + r) ∧ wA w 128 r = nI (ct w (1300 + r)) ∧ ∀ i, i < ct w (1300 + r) → wA w 129 (40 * r + i) = nI (elN w (1300 + r) 1000 i)
def RLk (w : AW) : Prop := ∀ c, c < ct w 205 → wA w 143 c = wI w 192 (1700 + c) ∧ wA w 144 c = wI w 193 (1700 + c) ∧ wA w 145 c = nI (ct w (1800 + c)) ∧ (∀ i, i < ct w (1800 + c) → wA w 146 (4 * c + i) = nI (elN w (1800 + c) 1000 i)) ∧ wA w 147 c = wI w 195 (1700 + c) ∧ wA w 148 c = wI w 196 (1700 + c) ∧ (wI w 195 (1700 + c) = -1 → wI w 196 (1700 + c) = 0)
theorem len_eq {f : Nat → Int32} {g : Nat → Int32} (x : Int32) : ∀ k, (∀ i, i < k → f i = g i) → hgF f x k = taF g k + x
  | 0, _ => by rw [hgF, taF, Int32.zero_add]
  | k + 1, h => by
    rw [hgF, taF, len_eq x k (fun i hi => h i (by omega)), h k (by omega)]
    rw [Int32.add_assoc, Int32.add_assoc, Int32.add_comm x]
theorem el_lt {w : AW} {t i : Nat} (h : ∀ q ∈ wL w t, isWk w q) (hi : i < ct w t) : elN w t 1000 i < ct w 201 := by
  obtain ⟨n, hn, -, e⟩ := el_get h hi
  rw [e]; exact hn
