theorem hung_le {n q : Nat} {w : AW} (h : Rel n w) (hq : q < ct w 202) : ct w (1300 + q) ≤ 40 := by
  have bd := h.ci.bd
  have a := (h.r q hq).2.2.2.2.2.2.1
  obtain ⟨j, hj, e⟩ := rb_hung h.rb q (by omega)
  rw [a] at e
  have hm2 : ct w (1300 + q) ≤ 2190 := (ci_R h.ci hq).2.2.1.2.2.1
  have := (nI_eq (by omega) (by omega)).mp e
  omega
theorem rl_hang {n L m r : Nat} {w : AW} {y : Int64} (h : Rel n w) (hn : n < 512) (hm : m < ct w 201) (hr : r < ct w 202) (hk : L ≤ 4 * n) (eL : wI w 771 100 = nI L) (hp : wI w 647 (1000 + m) = 1) : Rel (n + 1) (sI (sA (sA (sA (sA (sA (sA (sA (sA (sI (sJ (mvW (sR (sL w (1300 + r) (wL w (1300 + r) ++ [1000 + m])) 650 (1000 + m) (some (1200 + r))) m 3 (nI r) L) 222 0 y) 768 100 0) 129 (40 * r + ct w (1300 + r)) (nI m)) 128 r (nI (ct w (1300 + r) + 1))) 110 m 3) 111 m (nI r)) 113 L (nI m)) 114 L (wI w 716 200)) 115 L 3) 116 L (nI r)) 771 100 (nI (L + 1))) := by
  have f3 : wT w (3000 + L) = 0 := h.f.2.2.2.2.2.2 L (by rw [eL, nI_clamp (by omega)]; exact Nat.le_refl _)
  have hC := h.ci
  have bd := hC.bd
  obtain ⟨h40, hni⟩ := hung_lt h hm hr (by rw [hp]; decide)
  refine ru_hang (L := L) (m := m) (r := r) h hn hr ?_ hm hk eL ?_ (fun x hx => ?_) ?_ ?_ (fun k hk => ?_) (fun k hk => ?_) (fun j => ?_) (fun j => ?_) (fun j => ?_) (fun j => ?_) (fun j => ?_) (fun j => ?_) rfl hp ?_ (fun k hk => ?_) (fun j => ?_) (fun j => ?_)
  · unfold mvW
    refine AX.oI ?_ (Or.inr (by decide))
    refine AX.oA ?_ (Or.inr (by decide))
    refine AX.oA ?_ (Or.inr (by decide))
    refine AX.oA ?_ (Or.inr (by decide))
    refine AX.oA ?_ (Or.inr (by decide))
    refine AX.oA ?_ (Or.inr (by decide))
    refine AX.oA ?_ (Or.inr (by decide))
    refine AX.oA ?_ (Or.inr (by decide))
    refine AX.oA ?_ (Or.inr (by decide))
    refine AX.oI ?_ (Or.inr (by decide))
    refine AX.oJ ?_
    refine AX.oL ?_ (Or.inr (Or.inl rfl))
    refine AX.oI ?_ (Or.inl f3)
    refine AX.oI ?_ (Or.inl f3)
    refine AX.oI ?_ (Or.inl f3)
    refine AX.mO ?_ f3
    refine AX.oI ?_ (Or.inr (by decide))
    refine AX.oI ?_ (Or.inr (by decide))
    refine AX.oR ?_ (Or.inr (by decide))
    refine AX.oL ?_ (Or.inr (Or.inr rfl))
    exact AX.refl
  · rw [CIv_771, CIv_sA, CIv_sA, CIv_sA, CIv_sA, CIv_sA, CIv_sA, CIv_sA, CIv_sA, CIv_thr, CIv_out]
    have q : CIv (sL w (1300 + r) (wL w (1300 + r) ++ [1000 + m])) := CIv_hung hC hr (by rw [List.length_append]; show ct w (1300 + r) + 1 ≤ 2190; omega) (fun q hq => by
      rcases List.mem_append.mp hq with y | y
      · exact (ci_R hC hr).2.2.2.1 q y
      · rw [List.mem_singleton] at y; exact ⟨m, hm, y⟩)
    have e1 : ∀ t, t ≠ 1300 + r → ct (sL w (1300 + r) (wL w (1300 + r) ++ [1000 + m])) t = ct w t := fun t ht => by unfold ct; rw [wL_sL, if_neg ht]
    have q2 := CIv_sR650 (n := m) (v := some (1200 + r)) q (Or.inr ⟨r, by rw [e1 _ (by omega)]; exact hr, rfl⟩)
    refine mvW_ci q2 ?_ ?_ f3
    · show m < ct (sL w (1300 + r) (wL w (1300 + r) ++ [1000 + m])) 201
      rw [e1 _ (by omega)]; exact hm
    · show ct (sL w (1300 + r) (wL w (1300 + r) ++ [1000 + m])) (1100 + m) < 2190
      rw [e1 _ (by omega)]
      exact Nat.lt_of_le_of_lt (h.m.2.1 m hm) (by omega)
  · unfold mvW
    simp only [wT_sI, wT_sA, wT_sJ, wT_sL, wT_nO, wT_sR]
    rw [if_neg hx]
  · unfold mvW
    simp only [wL_sI, wL_sA, wL_sJ]
    rw [wL_sL, if_pos rfl]
    simp only [wL_sR]
    rw [wL_sL, if_neg (by omega)]
  · unfold lnV mvW
    simp only [wI_sI, wI_sA, wI_sJ, wI_sL, wI_nO, wI_sR, Nat.reduceEqDiff, reduceIte, if_true, if_false]
  · unfold mvW
    simp only [wI_sI, wI_sA, wI_sJ, wI_sL, wI_nO, wI_sR, Nat.reduceEqDiff, reduceIte, if_true, if_false]
    rw [if_neg (by omega)]
    try simp only [Nat.reduceEqDiff, reduceIte, if_true, if_false]
    try (by_cases z : k = m
         · rw [if_pos z, if_pos (by omega)]
         · rw [if_neg z, if_neg (by omega)])
  · unfold mvW
    simp only [wI_sI, wI_sA, wI_sJ, wI_sL, wI_nO, wI_sR, Nat.reduceEqDiff, reduceIte, if_true, if_false]
    rw [if_neg (by omega)]
    try simp only [Nat.reduceEqDiff, reduceIte, if_true, if_false]
    try (by_cases z : k = m
         · rw [if_pos z, if_pos (by omega)]
         · rw [if_neg z, if_neg (by omega)])
  · unfold mvW
    simp only [wA_sI, wA_sA, wA_sJ, wA_sL, wA_nO, wA_sR, Nat.reduceEqDiff, reduceIte, if_true, if_false]
    try rfl
  · unfold mvW
    simp only [wA_sI, wA_sA, wA_sJ, wA_sL, wA_nO, wA_sR, Nat.reduceEqDiff, reduceIte, if_true, if_false]
    try rfl
  · unfold mvW
    simp only [wA_sI, wA_sA, wA_sJ, wA_sL, wA_nO, wA_sR, Nat.reduceEqDiff, reduceIte, if_true, if_false]
    try rfl
  · unfold mvW
    simp only [wA_sI, wA_sA, wA_sJ, wA_sL, wA_nO, wA_sR, Nat.reduceEqDiff, reduceIte, if_true, if_false]
    try rfl
  · unfold mvW
    simp only [wA_sI, wA_sA, wA_sJ, wA_sL, wA_nO, wA_sR, Nat.reduceEqDiff, reduceIte, if_true, if_false]
    try rfl
  · unfold mvW
    simp only [wA_sI, wA_sA, wA_sJ, wA_sL, wA_nO, wA_sR, Nat.reduceEqDiff, reduceIte, if_true, if_false]
    try rfl
  · unfold mvW
    simp only [wL_sI, wL_sA, wL_sJ, wL_sL, wL_nO, wL_sR]
    rw [if_neg (by omega), if_neg (by omega)]
    simp only [if_true]
  · unfold mvW
    simp only [wR_sI, wR_sA, wR_sJ, wR_sL, wR_nO, wR_sR, Nat.reduceEqDiff, reduceIte, if_true, if_false]
    rw [if_neg (by omega)]
    try simp only [Nat.reduceEqDiff, reduceIte, if_true, if_false]
    try (by_cases z : k = m
         · rw [if_pos z, if_pos (by omega)]
         · rw [if_neg z, if_neg (by omega)])
  · unfold mvW
    simp only [wA_sI, wA_sA, wA_sJ, wA_sL, wA_nO, wA_sR, Nat.reduceEqDiff, reduceIte, if_true, if_false]
    try rfl
  · unfold mvW
    simp only [wA_sI, wA_sA, wA_sJ, wA_sL, wA_nO, wA_sR, Nat.reduceEqDiff, reduceIte, if_true, if_false]
    try rfl

theorem wA_shW (u : AW) (r k : Nat) : ∀ d t x, wA (shW u r k d) t x = if t = 129 ∧ 40 * r + k ≤ x ∧ x < 40 * r + k + d then wA u 129 (x + 1) else wA u t x
  | 0, t, x => by rw [if_neg (by omega)]; rfl
  | d + 1, t, x => by
    rw [shW, wA_sA, wA_shW u r k d, wA_shW u r k d]
    by_cases e : t = 129
    · subst e
      rw [if_pos rfl]
      by_cases e2 : x = 40 * r + (k + d)
      · subst e2
        rw [if_pos rfl, if_neg (by omega), if_pos ⟨rfl, by omega, by omega⟩]
      · rw [if_neg e2]
        by_cases e3 : 40 * r + k ≤ x ∧ x < 40 * r + k + d
        · rw [if_pos ⟨rfl, e3⟩, if_pos ⟨rfl, e3.1, by omega⟩]
        · rw [if_neg (fun z => e3 z.2), if_neg (fun z => e3 ⟨z.2.1, by omega⟩)]
    · rw [if_neg e, if_neg (fun z => e z.1), if_neg (fun z => e z.1)]
theorem AX.sh {ks rs : List Nat} {ls : Nat → Prop} {w u : AW} (g : AX ks rs ls w u) {r k : Nat} (h : 129 ∈ rs) : ∀ d, AX ks rs ls w (shW u r k d)
  | 0 => g
  | d + 1 => (AX.sh g h d).oA (Or.inr h)
theorem CIv_shW (u : AW) (r k : Nat) : ∀ d, CIv (shW u r k d) = CIv u
  | 0 => rfl
  | d + 1 => (CIv_sA _ _ _ _).trans (CIv_shW u r k d)
theorem wT_shW (u : AW) (r k : Nat) : ∀ d, wT (shW u r k d) = wT u
  | 0 => rfl
  | d + 1 => wT_shW u r k d
theorem wI_shW (u : AW) (r k : Nat) : ∀ d, wI (shW u r k d) = wI u
  | 0 => rfl
  | d + 1 => wI_shW u r k d
theorem wR_shW (u : AW) (r k : Nat) : ∀ d, wR (shW u r k d) = wR u
  | 0 => rfl
  | d + 1 => wR_shW u r k d
theorem wN_shW (u : AW) (r k : Nat) : ∀ d, wN (shW u r k d) = wN u
  | 0 => rfl
  | d + 1 => wN_shW u r k d
theorem wJ_shW (u : AW) (r k : Nat) : ∀ d, wJ (shW u r k d) = wJ u
  | 0 => rfl
  | d + 1 => wJ_shW u r k d
theorem wP_shW (u : AW) (r k : Nat) : ∀ d, wP (shW u r k d) = wP u
  | 0 => rfl
  | d + 1 => wP_shW u r k d
theorem wL_shW (u : AW) (r k : Nat) : ∀ d, wL (shW u r k d) = wL u
  | 0 => rfl
  | d + 1 => wL_shW u r k d
theorem rl_down {n L m r : Nat} {w : AW} {y : Int64} (h : Rel n w) (hn : n < 512) (hm : m < ct w 201) (hr : r < ct w 202) (hk : L ≤ 4 * n) (eL : wI w 771 100 = nI L) (hso : wR w 650 (1000 + m) = some (1200 + r)) (l1 l2 : List Nat) (hl : wL w (1300 + r) = l1 ++ (1000 + m) :: l2) (hl1 : 1000 + m ∉ l1) : Rel (n + 1) (sI (sA (sA (sA (sA (sA (sA (shW (sA (sI (sJ (mvW (sR (sL w (1300 + r) ((wL w (1300 + r)).erase (1000 + m))) 650 (1000 + m) none) m 1 (wI w 512 (1200 + r)) L) 222 0 y) 768 100 0) 128 r (nI (l1.length + l2.length))) r l1.length l2.length) 110 m 1) 111 m (wI w 512 (1200 + r))) 113 L (nI m)) 114 L (wI w 716 200)) 115 L 1) 116 L (wI w 512 (1200 + r))) 771 100 (nI (L + 1))) := by
  have f3 : wT w (3000 + L) = 0 := h.f.2.2.2.2.2.2 L (by rw [eL, nI_clamp (by omega)]; exact Nat.le_refl _)
  have hC := h.ci
  have bd := hC.bd
  refine ru_down (L := L) (m := m) (r := r) (X := wI w 512 (1200 + r)) h hn hr ?_ hm hk eL ?_ (fun x hx => ?_) ?_ ?_ (fun k hk => ?_) (fun k hk => ?_) (fun j => ?_) (fun j => ?_) (fun j => ?_) (fun j => ?_) (fun j => ?_) (fun j => ?_) rfl hso ?_ (fun k hk => ?_) l1 l2 hl hl1 (fun j => ?_) (fun j => ?_)
  · unfold mvW
    refine AX.oI ?_ (Or.inr (by decide))
    refine AX.oA ?_ (Or.inr (by decide))
    refine AX.oA ?_ (Or.inr (by decide))
    refine AX.oA ?_ (Or.inr (by decide))
    refine AX.oA ?_ (Or.inr (by decide))
    refine AX.oA ?_ (Or.inr (by decide))
    refine AX.oA ?_ (Or.inr (by decide))
    refine (AX.sh ?_ (by decide) _)
    refine AX.oA ?_ (Or.inr (by decide))
    refine AX.oI ?_ (Or.inr (by decide))
    refine AX.oJ ?_
    refine AX.oL ?_ (Or.inr (Or.inl rfl))
    refine AX.oI ?_ (Or.inl f3)
    refine AX.oI ?_ (Or.inl f3)
    refine AX.oI ?_ (Or.inl f3)
    refine AX.mO ?_ f3
    refine AX.oI ?_ (Or.inr (by decide))
    refine AX.oI ?_ (Or.inr (by decide))
    refine AX.oR ?_ (Or.inr (by decide))
    refine AX.oL ?_ (Or.inr (Or.inr rfl))
    exact AX.refl
  · rw [CIv_771, CIv_sA, CIv_sA, CIv_sA, CIv_sA, CIv_sA, CIv_sA, CIv_shW, CIv_sA, CIv_thr, CIv_out]
    have hle : ((wL w (1300 + r)).erase (1000 + m)).length ≤ ct w (1300 + r) := List.length_erase_le
    have h40 := hung_le h hr
    have q : CIv (sL w (1300 + r) ((wL w (1300 + r)).erase (1000 + m))) := CIv_hung hC hr (by omega) (fun q hq => (ci_R hC hr).2.2.2.1 q (List.mem_of_mem_erase hq))
    have e1 : ∀ t, t ≠ 1300 + r → ct (sL w (1300 + r) ((wL w (1300 + r)).erase (1000 + m))) t = ct w t := fun t ht => by unfold ct; rw [wL_sL, if_neg ht]
    have q2 := CIv_sR650 (n := m) (v := none) q (Or.inl rfl)
    refine mvW_ci q2 ?_ ?_ f3
    · show m < ct (sL w (1300 + r) ((wL w (1300 + r)).erase (1000 + m))) 201
      rw [e1 _ (by omega)]; exact hm
    · show ct (sL w (1300 + r) ((wL w (1300 + r)).erase (1000 + m))) (1100 + m) < 2190
      rw [e1 _ (by omega)]
      exact Nat.lt_of_le_of_lt (h.m.2.1 m hm) (by omega)
  · unfold mvW
    simp only [wT_sI, wT_sA, wT_sJ, wT_sL, wT_nO, wT_sR, wT_shW]
    rw [if_neg hx]
  · unfold mvW
    simp only [wL_sI, wL_sA, wL_sJ, wL_shW]
    rw [wL_sL, if_pos rfl]
    simp only [wL_sR]
    rw [wL_sL, if_neg (by omega)]
  · unfold lnV mvW
    simp only [wI_sI, wI_sA, wI_sJ, wI_sL, wI_nO, wI_sR, wI_shW, Nat.reduceEqDiff, reduceIte, if_true, if_false]
  · unfold mvW
    simp only [wI_sI, wI_sA, wI_sJ, wI_sL, wI_nO, wI_sR, wI_shW, Nat.reduceEqDiff, reduceIte, if_true, if_false]
    rw [if_neg (by omega)]
    try simp only [Nat.reduceEqDiff, reduceIte, if_true, if_false]
    try (by_cases z : k = m
         · rw [if_pos z, if_pos (by omega)]
         · rw [if_neg z, if_neg (by omega)])
  · unfold mvW
    simp only [wI_sI, wI_sA, wI_sJ, wI_sL, wI_nO, wI_sR, wI_shW, Nat.reduceEqDiff, reduceIte, if_true, if_false]
    rw [if_neg (by omega)]
    try simp only [Nat.reduceEqDiff, reduceIte, if_true, if_false]
    try (by_cases z : k = m
         · rw [if_pos z, if_pos (by omega)]
         · rw [if_neg z, if_neg (by omega)])
  · unfold mvW
    simp only [wA_shW, wA_sI, wA_sA, wA_sJ, wA_sL, wA_nO, wA_sR, Nat.reduceEqDiff, reduceIte, if_true, if_false]
    first | rfl | (rw [if_neg (show ¬ (110 = 129 ∧ _) from fun z => absurd z.1 (by decide))]; rfl) | (simp only [false_and, reduceIte, if_false, Nat.reduceEqDiff]; try rfl)
  · unfold mvW
    simp only [wA_shW, wA_sI, wA_sA, wA_sJ, wA_sL, wA_nO, wA_sR, Nat.reduceEqDiff, reduceIte, if_true, if_false]
    first | rfl | (rw [if_neg (show ¬ (110 = 129 ∧ _) from fun z => absurd z.1 (by decide))]; rfl) | (simp only [false_and, reduceIte, if_false, Nat.reduceEqDiff]; try rfl)
  · unfold mvW
    simp only [wA_shW, wA_sI, wA_sA, wA_sJ, wA_sL, wA_nO, wA_sR, Nat.reduceEqDiff, reduceIte, if_true, if_false]
    first | rfl | (rw [if_neg (show ¬ (110 = 129 ∧ _) from fun z => absurd z.1 (by decide))]; rfl) | (simp only [false_and, reduceIte, if_false, Nat.reduceEqDiff]; try rfl)
  · unfold mvW
    simp only [wA_shW, wA_sI, wA_sA, wA_sJ, wA_sL, wA_nO, wA_sR, Nat.reduceEqDiff, reduceIte, if_true, if_false]
    first | rfl | (rw [if_neg (show ¬ (110 = 129 ∧ _) from fun z => absurd z.1 (by decide))]; rfl) | (simp only [false_and, reduceIte, if_false, Nat.reduceEqDiff]; try rfl)
  · unfold mvW
    simp only [wA_shW, wA_sI, wA_sA, wA_sJ, wA_sL, wA_nO, wA_sR, Nat.reduceEqDiff, reduceIte, if_true, if_false]
    first | rfl | (rw [if_neg (show ¬ (110 = 129 ∧ _) from fun z => absurd z.1 (by decide))]; rfl) | (simp only [false_and, reduceIte, if_false, Nat.reduceEqDiff]; try rfl)
  · unfold mvW
    simp only [wA_shW, wA_sI, wA_sA, wA_sJ, wA_sL, wA_nO, wA_sR, Nat.reduceEqDiff, reduceIte, if_true, if_false]
    first | rfl | (rw [if_neg (show ¬ (110 = 129 ∧ _) from fun z => absurd z.1 (by decide))]; rfl) | (simp only [false_and, reduceIte, if_false, Nat.reduceEqDiff]; try rfl)
  · unfold mvW
    simp only [wL_sI, wL_sA, wL_sJ, wL_sL, wL_nO, wL_sR, wL_shW]
    rw [if_neg (by omega), if_neg (by omega)]
    simp only [if_true]
  · unfold mvW
    simp only [wR_sI, wR_sA, wR_sJ, wR_sL, wR_nO, wR_sR, wR_shW, Nat.reduceEqDiff, reduceIte, if_true, if_false]
    rw [if_neg (by omega)]
    try simp only [Nat.reduceEqDiff, reduceIte, if_true, if_false]
    try (by_cases z : k = m
         · rw [if_pos z, if_pos (by omega)]
         · rw [if_neg z, if_neg (by omega)])
  · unfold mvW
    simp only [wA_shW, wA_sI, wA_sA, wA_sJ, wA_sL, wA_nO, wA_sR, Nat.reduceEqDiff, reduceIte, if_true, if_false]
    first | rfl | (rw [if_neg (show ¬ (110 = 129 ∧ _) from fun z => absurd z.1 (by decide))]; rfl) | (simp only [false_and, reduceIte, if_false, Nat.reduceEqDiff]; try rfl)
  · unfold mvW
    simp only [wA_shW, wA_sI, wA_sA, wA_sJ, wA_sL, wA_nO, wA_sR, Nat.reduceEqDiff, reduceIte, if_true, if_false, true_and]
    try rfl

