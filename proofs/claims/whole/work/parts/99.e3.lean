theorem le_max (x : Int32) : x ≤ 2147483647 := by
  rw [Int32.le_iff_toInt_le]
  have := Int32.toInt_lt x
  have e : (2147483647 : Int32).toInt = 2147483647 := rfl
  omega
theorem gd_iff {kd ca : Nat → Int32} {s use : Int32} (hs : s &&& (31 ^^^ -1) = 0) : ∀ N, (gdF kd ca s use N = true) = (s &&& (ocF kd ca N ^^^ -1) = 0 ∧ use ≤ llF kd ca N)
  | 0 => by
    rw [gdF, ocF, llF]
    exact propext ⟨fun _ => ⟨hs, le_max _⟩, fun _ => rfl⟩
  | i + 1 => by
    have ih := gd_iff (kd := kd) (ca := ca) (use := use) hs i
    rw [gdF, decide_eq_true_eq, ih, ocF, llF]
    by_cases k0 : kd i = 0
    · have k2 : ¬ kd i = 2 := fun z => by rw [k0] at z; exact absurd z (by decide)
      rw [if_pos k0, if_neg k2, and_no]
      refine propext ⟨fun ⟨⟨a, b⟩, c, _⟩ => ⟨⟨a, Classical.not_not.mp (fun z => c ⟨k0, z⟩)⟩, b⟩, fun ⟨⟨a, b⟩, c⟩ => ⟨⟨a, c⟩, fun z => z.2 b, fun z => k2 z.1⟩⟩
    · rw [if_neg k0]
      by_cases k2 : kd i = 2
      · rw [if_pos k2]
        refine propext ⟨fun ⟨⟨a, b⟩, _, c⟩ => ⟨a, ?_⟩, fun ⟨a, b⟩ => ⟨⟨a, ?_⟩, fun z => k0 z.1, fun z => ?_⟩⟩
        · have c : ¬ ca i < use := fun z => c ⟨k2, z⟩
          split
          · exact Int32.not_lt.mp c
          · exact b
        · split at b
          · rename_i z
            simp only [Int32.le_iff_toInt_le, Int32.lt_iff_toInt_lt] at *
            omega
          · exact b
        · have z := z.2
          split at b
          · exact absurd z (Int32.not_lt.mpr b)
          · rename_i y
            simp only [Int32.le_iff_toInt_le, Int32.lt_iff_toInt_lt] at *
            omega
      · rw [if_neg k2]
        exact propext ⟨fun ⟨a, _, _⟩ => a, fun a => ⟨a, fun z => k0 z.1, fun z => k2 z.1⟩⟩
theorem gdF_congr {kd ca kd' ca' : Nat → Int32} {s use : Int32} : ∀ N, (∀ q, q < N → kd q = kd' q ∧ ca q = ca' q) → gdF kd ca s use N = gdF kd' ca' s use N
  | 0, _ => rfl
  | N + 1, h => by rw [gdF, gdF, gdF_congr N (fun q hq => h q (by omega)), (h N (by omega)).1, (h N (by omega)).2]
theorem set_31 : ∀ k, k < 32 → nI k &&& ((31 : Int32) ^^^ -1) = 0 := by decide +kernel
/-- uses and gains -/
def RLu (w : AW) : Prop := ∀ i, i < 5 → wA w 158 i = wA w 210 i ∧ wA w 159 i = wA w 211 i
theorem bet_iff (g bg m bm : Int32) : (¬ g < bg ∧ ¬ (g = bg ∧ ¬ m < bm)) ↔ (bg < g ∨ (g = bg ∧ m < bm)) := by
  constructor
  · intro ⟨a, b⟩
    by_cases e : g = bg
    · exact Or.inr ⟨e, Classical.not_not.mp (fun z => b ⟨e, z⟩)⟩
    · refine Or.inl ?_
      rw [← Int32.toInt_inj] at e
      simp only [Int32.lt_iff_toInt_lt] at *
      omega
  · intro h
    rcases h with h | ⟨h1, h2⟩
    · refine ⟨fun z => ?_, fun z => ?_⟩
      · simp only [Int32.lt_iff_toInt_lt] at *
        omega
      · rw [z.1] at h
        exact absurd h (Int32.not_lt.mpr (Int32.le_refl _))
    · rw [h1]
      exact ⟨Int32.not_lt.mpr (Int32.le_refl _), fun z => z.2 h2⟩
theorem tour_eq {w : AW} (hC : CIv w) (hc : RLc w) (hw : RLw w) (hl : RLl w) (hu : RLu w) {n : Nat} (hn : n < ct w 201) : rTour w n = toF w n (toO w n) (toM w n) 32 := by
  have hm4 := (ci_loans hC).2.2
  unfold rTour
  rw [(hw n hn).1, force_eq hC hc hl, hc.2.2.2.2.2.1]
  generalize hL : cForce w (wI w 641 (1000 + n)) (wI w 716 200 / 24) = L
  have hg : ∀ k, k < 32 → ∀ use, (trG w L (nI k) use = true) = (nI k &&& (toO w n ^^^ -1) = 0 ∧ use ≤ toM w n) := by
    intro k hk use
    unfold trG toO toM
    rw [hL]
    rcases cForce_in w (wI w 641 (1000 + n)) (wI w 716 200 / 24) with e | ⟨j, hj, e⟩
    · rw [hL] at e
      rw [if_pos e, if_pos e, if_pos e]
      exact propext ⟨fun _ => ⟨set_31 k hk, le_max _⟩, fun _ => rfl⟩
    · rw [hL] at e
      obtain ⟨-, -, h3, h4⟩ := hl j hj
      have l5 := (ci_L hC hj).2.2.2.2.1
      rw [e, nI_clamp (by omega), if_neg (nI_nm1 (by omega)), if_neg (nI_nm1 (by omega)), if_neg (nI_nm1 (by omega)), h3, nI_clamp (by omega), gdF_congr (kd' := cKd w j) (ca' := cKa w j) _ (fun q hq => ⟨(h4 q hq).1, (h4 q hq).2.1⟩), gd_iff (set_31 k hk)]
      rfl
  have main : ∀ k, k ≤ 32 → trF w n L k = (toF w n (toO w n) (toM w n) k, smF (wA w 211) (toF w n (toO w n) (toM w n) k) 5, bcI (toF w n (toO w n) (toM w n) k)) := by
    intro k
    induction k with
    | zero =>
      intro _
      show ((0 : Int32), (0 : Int32), (0 : Int32)) = (0, smF (wA w 211) 0 5, bcI 0)
      rw [sm0]; rfl
    | succ k ih =>
      intro hk
      have ih := ih (by omega)
      have e1 : ruF (wA w 158) (nI k) (wA w 112 n) 5 = smF (wA w 210) (nI k) 5 + wI w 649 (1000 + n) := by rw [ruF_eq (g := wA w 210) 5 (fun i hi => (hu i hi).1), (hw n hn).2.2.2.2.2.2.2]
      have e2 : ruF (wA w 159) (nI k) 0 5 = smF (wA w 211) (nI k) 5 := by rw [ruF_eq (g := wA w 211) 5 (fun i hi => (hu i hi).2), Int32.add_zero]
      have e3 := many_eq k (by omega)
      rw [trF, toF, ih]
      have hiff : trP w n L (nI k) (toF w n (toO w n) (toM w n) k, smF (wA w 211) (toF w n (toO w n) (toM w n) k) 5, bcI (toF w n (toO w n) (toM w n) k)) ↔ toP w n (toO w n) (toM w n) (nI k) (toF w n (toO w n) (toM w n) k) := by
        unfold trP toP
        rw [e1, e2, e3, hg k (by omega)]
        exact and_congr Iff.rfl (bet_iff _ _ _ _)
      by_cases c : toP w n (toO w n) (toM w n) (nI k) (toF w n (toO w n) (toM w n) k)
      · rw [if_pos (hiff.mpr c), if_pos c, e2, e3]
      · rw [if_neg (fun z => c (hiff.mp z)), if_neg c]
  rw [main 32 (Nat.le_refl _)]
