def ntR (w : AW) (k c : Int32) : AW := if wI w 816 100 < 200 then sI (sA (sA (sA w 150 (wI w 816 100).toNatClampNeg (wI w 769 100)) 151 (wI w 816 100).toNatClampNeg k) 152 (wI w 816 100).toNatClampNeg c) 816 100 (wI w 816 100 + 1) else sI w 816 100 (wI w 816 100 + 1)
abbrev riQ (kd ca lb lt hr : Int32) : Prop := (kd = 2 ∧ ca < lt ∧ lb ≤ ca) ∨ (kd = 1 ∧ ca < hr / 24 ∧ hr - hr / 24 * 24 = 0)
abbrev nnP (b : Int32) : Prop := 2139095040 < b &&& 2147483647
abbrev riP (kd ca cb lb lt hr : Int32) (unk : Prop) (b : Int32) : Prop := (kd = 3 ∧ ¬ unk ∧ (nnP b ∨ cutM b < ca ∨ cb < cutM b)) ∨ (¬ (kd = 3 ∧ ¬ unk) ∧ riQ kd ca lb lt hr)
abbrev unP (w : AW) (r : Nat) : Prop := wA w 126 r = -1 ∨ wA w 118 (wA w 126 r).toNatClampNeg = -1 ∨ wA w 118 (wA w 126 r).toNatClampNeg ≤ (wI w 769 100 - wI w 769 100 / 24 * 24)
def biR (w : AW) (r : Nat) : Int32 := wA w 119 (24 * wA w 126 r + (wI w 769 100 - wI w 769 100 / 24 * 24)).toNatClampNeg
def lgW (w : AW) (n r : Nat) : AW := sA w 112 n (wA w 112 n + (if wA w 124 r ≤ wI w 769 100 - wI w 769 100 / 24 * 24 ∧ wI w 769 100 - wI w 769 100 / 24 * 24 < wA w 125 r then wA w 123 r else 0))
def riW (w : AW) (n r j : Nat) (lb : Int32) : Nat → AW
  | 0 => w
  | c + 1 => if riP (wA w 139 (10 * j + c)) (wA w 140 (10 * j + c)) (wA w 141 (10 * j + c)) lb (wA w 112 n) (wI w 769 100) (unP w r) (biR w r) then ntR (riW w n r j lb c) (nI n) (nI c) else riW w n r j lb c
def paW (w : AW) (n r : Nat) : AW := if rForce w (wA w 105 n) (wI w 769 100 / 24) = -1 then lgW w n r else riW (lgW w n r) n r (rForce w (wA w 105 n) (wI w 769 100 / 24)).toNatClampNeg (wA w 112 n) (wA w 138 (rForce w (wA w 105 n) (wI w 769 100 / 24)).toNatClampNeg).toNatClampNeg
/-- worlds of the reference that differ in its book alone -/
def BKR (u w : AW) : Prop := wT u = wT w ∧ wR u = wR w ∧ wN u = wN w ∧ wL u = wL w ∧ wP u = wP w ∧ wJ u = wJ w ∧ (∀ k x, k ≠ 816 → wI u k x = wI w k x) ∧ ∀ t, t ≠ 150 → t ≠ 151 → t ≠ 152 → wA u t = wA w t
theorem BKR.refl (w : AW) : BKR w w := ⟨rfl, rfl, rfl, rfl, rfl, rfl, fun _ _ _ => rfl, fun _ _ _ _ => rfl⟩
theorem BKR.nt {u w : AW} (h : BKR u w) (k c : Int32) : BKR (ntR u k c) w := by
  obtain ⟨h1, h2, h3, h4, h5, h6, h7, h8⟩ := h
  unfold ntR
  split
  · exact ⟨h1, h2, h3, h4, h5, h6, fun k' x hk => by rw [wI_sI, if_neg hk]; exact h7 k' x hk, fun t t1 t2 t3 => by
      show wA (sA (sA (sA u 150 _ _) 151 _ _) 152 _ _) t = _
      rw [wAs t3, wAs t2, wAs t1]; exact h8 t t1 t2 t3⟩
  · exact ⟨h1, h2, h3, h4, h5, h6, fun k' x hk => by rw [wI_sI, if_neg hk]; exact h7 k' x hk, h8⟩
theorem riW_bk (w : AW) (n r j : Nat) (lb : Int32) : ∀ c, BKR (riW w n r j lb c) w
  | 0 => BKR.refl w
  | c + 1 => by
    rw [riW]
    split
    · exact (riW_bk w n r j lb c).nt _ _
    · exact riW_bk w n r j lb c
theorem BKR.ri {u w : AW} (h : BKR u w) : RI u = RI w := by
  unfold RI
  rw [h.1, h.2.1, h.2.2.1]
theorem BKR.rb {u w : AW} (h : BKR u w) : RB u = RB w := by
  have e : ∀ k, k ≠ 816 → wI u k 100 = wI w k 100 := fun k hk => h.2.2.2.2.2.2.1 k 100 hk
  have a : ∀ t, t ≠ 150 → t ≠ 151 → t ≠ 152 → wA u t = wA w t := h.2.2.2.2.2.2.2
  unfold RB
  rw [e 770 (by decide), e 771 (by decide), e 784 (by decide), e 787 (by decide), e 797 (by decide), e 798 (by decide), e 809 (by decide), e 769 (by decide), a 145 (by decide) (by decide) (by decide), a 146 (by decide) (by decide) (by decide), a 128 (by decide) (by decide) (by decide), a 129 (by decide) (by decide) (by decide), a 138 (by decide) (by decide) (by decide), a 118 (by decide) (by decide) (by decide), a 126 (by decide) (by decide) (by decide)]
theorem ntR_c {u : AW} {c : Nat} (h : wI u 816 100 = nI c) (k x : Int32) : wI (ntR u k x) 816 100 = nI (c + 1) := by
  unfold ntR
  split
  · rw [wI_sI, if_pos rfl, if_pos rfl, h, nI_1]
  · rw [wI_sI, if_pos rfl, if_pos rfl, h, nI_1]
theorem riW_c {w : AW} {c : Nat} (h : wI w 816 100 = nI c) (n r j : Nat) (lb : Int32) : ∀ i, ∃ c', c' ≤ c + i ∧ wI (riW w n r j lb i) 816 100 = nI c'
  | 0 => ⟨c, by omega, h⟩
  | i + 1 => by
    obtain ⟨c', h1, h2⟩ := riW_c h n r j lb i
    rw [riW]
    split
    · exact ⟨c' + 1, by omega, ntR_c h2 _ _⟩
    · exact ⟨c', by omega, h2⟩
