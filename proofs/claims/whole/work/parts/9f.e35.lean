/-- u holds what w holds, but for light, book, hour and air of the class -/
def CS (w u : AW) : Prop := wT u = wT w ∧ wR u = wR w ∧ wN u = wN w ∧ wL u = wL w ∧ (∀ k x, k ∉ [67, 520, 521, 522, 649, 716] → wI u k x = wI w k x) ∧ ∀ t, t ∉ [212, 213, 214] → wA u t = wA w t
theorem CS.refl (w : AW) : CS w w := ⟨rfl, rfl, rfl, rfl, fun _ _ _ => rfl, fun _ _ => rfl⟩
theorem CS.trans {a b c : AW} (h1 : CS a b) (h2 : CS b c) : CS a c := ⟨h2.1.trans h1.1, h2.2.1.trans h1.2.1, h2.2.2.1.trans h1.2.2.1, h2.2.2.2.1.trans h1.2.2.2.1, fun k x hk => (h2.2.2.2.2.1 k x hk).trans (h1.2.2.2.2.1 k x hk), fun t ht => (h2.2.2.2.2.2 t ht).trans (h1.2.2.2.2.2 t ht)⟩
theorem CS.of {w u : AW} (h : SS [67, 520, 521, 522, 649, 716] u w) (ha : ∀ t, t ∉ [212, 213, 214] → wA u t = wA w t) : CS w u := ⟨h.1, h.2.1, h.2.2.1, h.2.2.2.1, h.2.2.2.2.2, ha⟩
theorem taW_A (w : AW) (r : Nat) (h : Int32) : wA (taW w r h) = wA w := by unfold taW; split <;> rfl
theorem phA_A (w : AW) : ∀ i, wA (phA w i) = wA w
  | 0 => rfl
  | i + 1 => by
    rw [phA]
    split
    · exact phA_A w i
    · rw [taW_A]; exact phA_A w i
theorem ntW_A (w : AW) (a b c : Int32) {t : Nat} (ht : t ∉ [212, 213, 214]) : wA (ntW w a b c) t = wA w t := by
  simp only [List.mem_cons, List.not_mem_nil, or_false, not_or] at ht
  unfold ntW
  split
  · funext j
    rw [wA_sI, wA_sA, wA_sA, wA_sA, if_neg ht.2.2, if_neg ht.2.1, if_neg ht.1]
  · rfl
theorem brW_A (w : AW) (n r : Nat) (lb : Int32) (j : Nat) {t : Nat} (ht : t ∉ [212, 213, 214]) : ∀ i, wA (brW w n r lb j i) t = wA w t
  | 0 => rfl
  | i + 1 => by
    rw [brW]
    split
    · rw [ntW_A _ _ _ _ ht]; exact brW_A w n r lb j ht i
    · exact brW_A w n r lb j ht i
theorem bhW_A (w : AW) (n r : Nat) {t : Nat} (ht : t ∉ [212, 213, 214]) : wA (bhW w n r) t = wA w t := by
  unfold bhW
  split
  · rfl
  · rw [brW_A _ _ _ _ _ ht]; rfl
theorem phB_A (w : AW) {t : Nat} (ht : t ∉ [212, 213, 214]) : ∀ i, wA (phB w i) t = wA w t
  | 0 => rfl
  | i + 1 => by
    rw [phB]
    split
    · exact phB_A w ht i
    · rw [bhW_A _ _ _ ht]; exact phB_A w ht i
theorem rcW_A (w : AW) : ∀ k, wA (rcW w k) = wA w
  | 0 => rfl
  | k + 1 => rcW_A w k
theorem rcW_L (w : AW) : ∀ k, wL (rcW w k) = wL w
  | 0 => rfl
  | k + 1 => rcW_L w k
theorem CS.rc (w : AW) (k : Nat) : CS w (rcW w k) := ⟨rcW_T w k, rcW_R w k, rcW_N w k, rcW_L w k, fun _ _ _ => by rw [rcW_I], fun _ _ => by rw [rcW_A]⟩
theorem CS.pa (w : AW) (i : Nat) : CS w (phA w i) := CS.of ((phA_ss w i).mono (by decide)) (fun _ _ => by rw [phA_A])
theorem CS.pb (w : AW) (i : Nat) : CS w (phB w i) := CS.of ((phB_ss w i).mono (by decide)) (fun _ ht => phB_A w ht i)
theorem CS.ht {w u : AW} (h : CS w u) (v : Int32) : CS w (sI u 716 200 v) := ⟨h.1, h.2.1, h.2.2.1, h.2.2.2.1, fun k x hk => by rw [wI_sI, if_neg (fun z => hk (by rw [z]; decide))]; exact h.2.2.2.2.1 k x hk, h.2.2.2.2.2⟩
theorem CS.fo {w u : AW} (h : CS w u) (a d : Int32) : cForce u a d = cForce w a d := by
  obtain ⟨h1, h2, h3, h4, h5, h6⟩ := h
  unfold cForce ct
  rw [h4]
  have e1 : cLd u = cLd w := by funext k; unfold cLd; rw [h5 _ _ (by decide)]
  have e2 : cDy u = cDy w := by funext k; unfold cDy; rw [h5 _ _ (by decide)]
  rw [e1, e2]
theorem CS.ci {w u : AW} (h : CS w u) : CIv u = CIv w := by
  obtain ⟨e1, e2, e3, e4, e6, -⟩ := h
  have i1 := fun x => e6 640 x (by decide)
  have i2 := fun x => e6 641 x (by decide)
  have i3 := fun x => e6 384 x (by decide)
  have i4 := fun x => e6 519 x (by decide)
  unfold CIv OF LSt WK RMp LNp CRp SH BK HG LW LC KC isWk CLp kdN ct
  simp only [e1, e2, e3, e4, i1, i2, i3, i4]
/-- what a room's air is at an hour of the day -/
def s520 (u : AW) (r : Nat) (q : Int32) : Int32 := if airV u r q then 1 else (if 2139095040 < airB u r q &&& 2147483647 then 2 else 0)
theorem taW_v (u : AW) (r : Nat) (q : Int32) (x : Nat) : wI (taW u r q) 520 (1200 + x) = (if x = r then s520 u r q else wI u 520 (1200 + x)) ∧ wI (taW u r q) 521 (1200 + x) = (if x = r then (if airV u r q then wI u 521 (1200 + r) else ctF (airB u r q)) else wI u 521 (1200 + x)) ∧ wI (taW u r q) 522 (1200 + x) = (if x = r then (if airV u r q then wI u 522 (1200 + r) + 1 else wI u 522 (1200 + r)) else wI u 522 (1200 + x)) := by
  unfold taW s520
  cases a : airV u r q
  · simp only [Bool.false_eq_true, if_false]
    unfold taK
    simp only [wI_sI, Nat.reduceEqDiff, reduceIte, if_true, if_false]
    by_cases z : x = r
    · subst z; simp only [if_true]; exact ⟨trivial, trivial, trivial⟩
    · simp only [if_neg z, if_neg (show ¬ 1200 + x = 1200 + r by omega)]; try exact ⟨trivial, trivial, trivial⟩
  · simp only [if_true]
    unfold taU
    simp only [wI_sI, Nat.reduceEqDiff, reduceIte, if_true, if_false]
    by_cases z : x = r
    · subst z; simp only [if_true]; exact ⟨trivial, trivial, trivial⟩
    · simp only [if_neg z, if_neg (show ¬ 1200 + x = 1200 + r by omega)]; try exact ⟨trivial, trivial, trivial⟩
theorem air_cs {w u : AW} (h : CS w u) (r : Nat) (q : Int32) : airV u r q = airV w r q ∧ airB u r q = airB w r q := by
  obtain ⟨h1, h2, h3, h4, h5, h6⟩ := h
  have e0 : shN u r = shN w r := by unfold shN; rw [h2]
  have e1 : ∀ y, wA u (1500 + y) = wA w (1500 + y) := fun y => h6 _ (by simp only [List.mem_cons, List.not_mem_nil, or_false, not_or]; omega)
  have e2 : ∀ y, wA u (1600 + y) = wA w (1600 + y) := fun y => h6 _ (by simp only [List.mem_cons, List.not_mem_nil, or_false, not_or]; omega)
  unfold airV airB
  rw [e0, e1, e2, h2, h5 519 _ (by decide)]
  exact ⟨rfl, rfl⟩
/-- the rooms' hour, in closed form -/
theorem phA_v (u : AW) : ∀ i x, wI (phA u i) 520 (1200 + x) = (if x < i ∧ ¬ wL u (1300 + x) = [] then s520 u x (wI u 716 200 - wI u 716 200 / 24 * 24) else wI u 520 (1200 + x)) ∧ wI (phA u i) 521 (1200 + x) = (if x < i ∧ ¬ wL u (1300 + x) = [] then (if airV u x (wI u 716 200 - wI u 716 200 / 24 * 24) then wI u 521 (1200 + x) else ctF (airB u x (wI u 716 200 - wI u 716 200 / 24 * 24))) else wI u 521 (1200 + x)) ∧ wI (phA u i) 522 (1200 + x) = (if x < i ∧ ¬ wL u (1300 + x) = [] then (if airV u x (wI u 716 200 - wI u 716 200 / 24 * 24) then wI u 522 (1200 + x) + 1 else wI u 522 (1200 + x)) else wI u 522 (1200 + x))
  | 0, x => by
    have z : ¬ (x < 0 ∧ ¬ wL u (1300 + x) = []) := fun y => absurd y.1 (Nat.not_lt_zero _)
    rw [if_neg z, if_neg z, if_neg z]; exact ⟨rfl, rfl, rfl⟩
  | i + 1, x => by
    obtain ⟨a1, a2, a3⟩ := phA_v u i x
    rw [phA]
    by_cases z : wL u (1300 + i) = []
    · rw [if_pos z]
      have e : (x < i + 1 ∧ ¬ wL u (1300 + x) = []) ↔ (x < i ∧ ¬ wL u (1300 + x) = []) := by
        constructor
        · rintro ⟨p, q⟩
          refine ⟨?_, q⟩
          by_cases y : x = i
          · subst y; exact absurd z q
          · omega
        · rintro ⟨p, q⟩; exact ⟨by omega, q⟩
      simp only [e]
      exact ⟨a1, a2, a3⟩
    · rw [if_neg z]
      obtain ⟨b1, b2, b3⟩ := taW_v (phA u i) i (wI u 716 200 - wI u 716 200 / 24 * 24) x
      rw [b1, b2, b3]
      by_cases y : x = i
      · subst y
        obtain ⟨c1, c2⟩ := air_cs (CS.pa u x) x (wI u 716 200 - wI u 716 200 / 24 * 24)
        have nz : ¬ (x < x ∧ ¬ wL u (1300 + x) = []) := fun y => absurd y.1 (Nat.lt_irrefl _)
        have pz : x < x + 1 ∧ ¬ wL u (1300 + x) = [] := ⟨Nat.lt_succ_self _, z⟩
        rw [if_neg nz] at a1 a2 a3
        unfold s520
        rw [if_pos rfl, if_pos rfl, if_pos rfl, if_pos pz, if_pos pz, if_pos pz, c1, c2, a2, a3]
        exact ⟨rfl, rfl, rfl⟩
      · rw [if_neg y, if_neg y, if_neg y]
        have e : (x < i + 1 ∧ ¬ wL u (1300 + x) = []) ↔ (x < i ∧ ¬ wL u (1300 + x) = []) := by
          constructor
          · rintro ⟨p, q⟩; exact ⟨by omega, q⟩
          · rintro ⟨p, q⟩; exact ⟨by omega, q⟩
        simp only [e]
        exact ⟨a1, a2, a3⟩
/-- both judge a clause alike -/
theorem br_eq {kd ca cb lb lt hr s a b : Int32} {unk : Prop} (h1 : unk → s = 1) (h2 : ¬ unk → s = (if 2139095040 < b &&& 2147483647 then 2 else 0) ∧ a = cutM b) : brB kd ca cb lb lt hr s a = true ↔ riP kd ca cb lb lt hr unk b := by
  unfold brB
  rw [decide_eq_true_iff]
  by_cases k3 : kd = 3
  · have n2 : ¬ (kd = 2 ∧ ca < lt ∧ lb ≤ ca) := fun z => by rw [k3] at z; exact absurd z.1 (by decide)
    have n1 : ¬ (kd = 1 ∧ ca < hr / 24 ∧ hr - hr / 24 * 24 = 0) := fun z => by rw [k3] at z; exact absurd z.1 (by decide)
    by_cases u : unk
    · have s1 := h1 u
      have e0 : ¬ s = 0 := by rw [s1]; decide
      have e2 : ¬ s = 2 := by rw [s1]; decide
      constructor
      · rintro (z | z | ⟨-, z | z⟩)
        · exact absurd z n2
        · exact absurd z n1
        · exact absurd z.1 e0
        · exact absurd z.2 e2
      · rintro (⟨-, z, -⟩ | ⟨-, z | z⟩)
        · exact absurd u z
        · exact absurd z n2
        · exact absurd z n1
    · obtain ⟨s1, a1⟩ := h2 u
      by_cases nn : 2139095040 < b &&& 2147483647
      · rw [if_pos nn] at s1
        constructor
        · intro _; exact Or.inl ⟨k3, u, Or.inl nn⟩
        · intro _; exact Or.inr (Or.inr ⟨k3, Or.inr ⟨by rw [s1]; decide, s1⟩⟩)
      · rw [if_neg nn] at s1
        constructor
        · rintro (z | z | ⟨-, z | z⟩)
          · exact absurd z n2
          · exact absurd z n1
          · rw [a1] at z; exact Or.inl ⟨k3, u, Or.inr z.2⟩
          · exact absurd s1 z.1
        · rintro (⟨-, -, z⟩ | ⟨z, -⟩)
          · exact Or.inr (Or.inr ⟨k3, Or.inl ⟨s1, by rw [a1]; exact z.resolve_left nn⟩⟩)
          · exact absurd ⟨k3, u⟩ z
  · constructor
    · rintro (z | z | z)
      · exact Or.inr ⟨fun y => k3 y.1, Or.inl z⟩
      · exact Or.inr ⟨fun y => k3 y.1, Or.inr z⟩
      · exact absurd z.1 k3
    · rintro (z | ⟨-, z | z⟩)
      · exact absurd z.1 k3
      · exact Or.inl z
      · exact Or.inr (Or.inl z)

