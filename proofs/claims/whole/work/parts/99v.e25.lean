/-- one thing moved: works, lines, counts -/
theorem mv_core {ks rs : List Nat} {ls : Nat → Prop} {n L m : Nat} {w u : AW} {P X : Int32} (h : Rel n w) (hn : n < 512) (g : AX ks rs ls w u) (l1 : ¬ ls 201) (l0 : ∀ k, k ≠ m → k < 40 → ¬ ls (1100 + k)) (hks : ∀ k ∈ [67, 320, 321, 322, 641, 642, 643, 644, 645, 649, 716], k ∉ ks) (hrs : ∀ t ∈ [105, 106, 107, 108, 109, 112], t ∉ rs) (hm : m < ct w 201) (hk : L ≤ 4 * n) (eL : wI w 771 100 = nI L) (hI : CIv u) (hT : ∀ x, ¬ x = 3000 + L → wT u x = wT w x) (hL1 : wL u (1100 + m) = wL w (1100 + m) ++ [3000 + L]) (iL : lnV u (3000 + L) = (wI w 716 200, P, X)) (p7 : ∀ k, k < 40 → wI u 647 (1000 + k) = if k = m then P else wI w 647 (1000 + k)) (p8 : ∀ k, k < 40 → wI u 648 (1000 + k) = if k = m then X else wI w 648 (1000 + k)) (r110 : ∀ j, wA u 110 j = if j = m then P else wA w 110 j) (r111 : ∀ j, wA u 111 j = if j = m then X else wA w 111 j) (r113 : ∀ j, wA u 113 j = if j = L then nI m else wA w 113 j) (r114 : ∀ j, wA u 114 j = if j = L then wI w 716 200 else wA w 114 j) (r115 : ∀ j, wA u 115 j = if j = L then P else wA w 115 j) (r116 : ∀ j, wA u 116 j = if j = L then X else wA w 116 j) (h771 : wI u 771 100 = nI (L + 1)) : RLw u ∧ RLn u ∧ RLm (n + 1) u := by
  have hC := h.ci
  have hR := h.ri
  have b40 := hC.bd.1
  have eL1 : (wI w 771 100).toNatClampNeg = L := by rw [eL, nI_clamp (by omega)]
  have eL2 : (wI u 771 100).toNatClampNeg = L + 1 := by rw [h771, nI_clamp (by omega)]
  have e1 := g.c1 hC l1
  have hold : ∀ k, k < ct w 201 → k ≠ m → wL u (1100 + k) = wL w (1100 + k) := fun k hk z => g.L (ci_W hC hk).2.2.1.2.1 (by decide) (l0 k z (by omega))
  have hln : ∀ k, k < ct w 201 → ∀ q ∈ wL w (1100 + k), lnV u q = lnV w q := fun k hk q hq => by
    have hT := (ci_W hC hk).2.2.2.1 q hq
    unfold lnV
    rw [g.I (k := 320) hT (by decide) (hks _ (by decide)), g.I (k := 321) hT (by decide) (hks _ (by decide)), g.I (k := 322) hT (by decide) (hks _ (by decide))]
  refine ⟨fun r hr => ?_, ?_, ?_⟩
  · rw [e1] at hr
    have aA := g.rows hR (l := [105, 106, 107, 108, 109, 112]) (by decide) hrs
    have aI := g.iW hC hks hr
    rw [r110, r111, p7 _ (by omega), p8 _ (by omega)]
    simp (disch := decide) only [aA, aI]
    obtain ⟨q1, q2, q3, q4, q5, q6, q7, q8⟩ := h.wk r hr
    refine ⟨q1, q2, q3, q4, q5, ?_, ?_, q8⟩
    · split
      · rfl
      · exact q6
    · split
      · rfl
      · exact q7
  · refine rln_add h.n (fun k hk => by omega) (by omega) (by omega) (by omega) eL1 eL2 (fun k hk z => ?_) ?_ r113 r114 r115 r116
    · rw [hold k hk z]
      exact List.map_congr_left fun q hq => hln k hk q hq
    · rw [hL1, List.map_append]
      have q := h.n.1 m hm
      rw [eL1] at q
      rw [← q]
      refine congr (congrArg _ (List.map_congr_left fun q hq => hln m hm q hq)) ?_
      show [lnV u (3000 + L)] = _
      rw [iL]
  · obtain ⟨-, q2, q3⟩ := h.m
    have a2 := g.i2 hC hks
    have a3 := g.I (k := 67) (ci_BK hC).1 (by decide) (hks _ (by decide))
    unfold RLm
    rw [e1, a3, a2 716 (by decide)]
    refine ⟨⟨L + 1, by omega, h771⟩, fun k hk => ?_, q3⟩
    by_cases z : k = m
    · subst z
      unfold ct at *
      rw [hL1, List.length_append]; exact Nat.succ_le_succ (q2 k hk)
    · unfold ct at *
      rw [hold k hk z]; exact Nat.le_succ_of_le (q2 k hk)
theorem elN_l {l : List Nat} {q b i : Nat} (h : i < l.length) : ((l ++ [q])[i]?).getD b - b = (l[i]?).getD b - b := by
  rw [List.getElem?_append_left h]
theorem elN_r {l : List Nat} {q b : Nat} : ((l ++ [b + q])[l.length]?).getD b - b = q := by
  rw [List.getElem?_append_right (Nat.le_refl _), Nat.sub_self]
  show b + q - b = q
  omega
theorem ru_pack {n L m c : Nat} {w u : AW} (h : Rel n w) (hn : n < 512) (hcr : c < ct w 205) (h4 : ct w (1800 + c) < 4) (hp : wI w 647 (1000 + m) = 0 ∨ wI w 647 (1000 + m) = 1) (g : AX [647, 648, 768, 771] [110, 111, 113, 114, 115, 116, 145, 146] (fun y => y = 1100 + m ∨ y = 1800 + c) w u) (hm : m < ct w 201) (hk : L ≤ 4 * n) (eL : wI w 771 100 = nI L) (hI : CIv u) (hT : ∀ x, ¬ x = 3000 + L → wT u x = wT w x) (hL1 : wL u (1100 + m) = wL w (1100 + m) ++ [3000 + L]) (iL : lnV u (3000 + L) = (wI w 716 200, 2, nI c)) (p7 : ∀ k, k < 40 → wI u 647 (1000 + k) = if k = m then 2 else wI w 647 (1000 + k)) (p8 : ∀ k, k < 40 → wI u 648 (1000 + k) = if k = m then nI c else wI w 648 (1000 + k)) (r110 : ∀ j, wA u 110 j = if j = m then 2 else wA w 110 j) (r111 : ∀ j, wA u 111 j = if j = m then nI c else wA w 111 j) (r113 : ∀ j, wA u 113 j = if j = L then nI m else wA w 113 j) (r114 : ∀ j, wA u 114 j = if j = L then wI w 716 200 else wA w 114 j) (r115 : ∀ j, wA u 115 j = if j = L then 2 else wA w 115 j) (r116 : ∀ j, wA u 116 j = if j = L then nI c else wA w 116 j) (h771 : wI u 771 100 = nI (L + 1)) (hL2 : wL u (1800 + c) = wL w (1800 + c) ++ [1000 + m]) (r145 : ∀ j, wA u 145 j = if j = c then nI (ct w (1800 + c) + 1) else wA w 145 j) (r146 : ∀ j, wA u 146 j = if j = 4 * c + ct w (1800 + c) then nI m else wA w 146 j) : Rel (n + 1) u := by
  have hC := h.ci
  have hR := h.ri
  have b40 := hC.bd.1
  have eL1 : (wI w 771 100).toNatClampNeg = L := by rw [eL, nI_clamp (by omega)]
  have eL2 : (wI u 771 100).toNatClampNeg = L + 1 := by rw [h771, nI_clamp (by omega)]
  have b20 := hC.bd.2.2.2.2
  have l0 : ∀ k, k ≠ m → k < 40 → ¬ (1100 + k = 1100 + m ∨ 1100 + k = 1800 + c) := fun k a b => by omega
  obtain ⟨kw, kn, km⟩ := mv_core h hn g (by omega) l0 (by decide) (by decide) hm hk eL hI hT hL1 iL p7 p8 r110 r111 r113 r114 r115 r116 h771
  have hne3 : ¬ wI w 647 (1000 + m) = 3 := by rcases hp with z | z <;> rw [z] <;> decide
  have hne2 : ¬ wI w 647 (1000 + m) = 2 := by rcases hp with z | z <;> rw [z] <;> decide
  have hnl : ∀ c', c' < ct w 205 → 1000 + m ∉ wL w (1800 + c') := fun c' hc' y => hne2 ((h.d c' hc').2 m hm y).1
  refine ⟨hI, g.xri hR (by decide), ?_, g.xc hC hR h.c (by first | omega | (intro _ _; omega) | (dsimp only; omega) | (intro _ _; dsimp only; omega)) (by first | omega | (intro _ _; omega) | (dsimp only; omega) | (intro _ _; dsimp only; omega)) (by first | omega | (intro _ _; omega) | (dsimp only; omega) | (intro _ _; dsimp only; omega)) (by first | omega | (intro _ _; omega) | (dsimp only; omega) | (intro _ _; dsimp only; omega)) (by first | omega | (intro _ _; omega) | (dsimp only; omega) | (intro _ _; dsimp only; omega)) (by decide), kw, g.xl hC hR h.l (by first | omega | (intro _ _; omega) | (dsimp only; omega) | (intro _ _; dsimp only; omega)) (by first | omega | (intro _ _; omega) | (dsimp only; omega) | (intro _ _; dsimp only; omega)) (by decide) (by decide), g.xr hC hR h.r (by first | omega | (intro _ _; omega) | (dsimp only; omega) | (intro _ _; dsimp only; omega)) (by first | omega | (intro _ _; omega) | (dsimp only; omega) | (intro _ _; dsimp only; omega)) (by decide) (by decide), ?_, g.xu hC hR h.u (by decide) (by decide) (by decide), g.xs hC hR h.s (by first | omega | (intro _ _; omega) | (dsimp only; omega) | (intro _ _; dsimp only; omega)) (by intro q hq; simp only [List.mem_cons, List.not_mem_nil, or_false] at hq <;> omega) (by intro q hq; simp only [List.mem_cons, List.not_mem_nil, or_false] at hq <;> omega) (by decide), g.xa hC hR h.a (by first | omega | (intro _ _; omega) | (dsimp only; omega) | (intro _ _; dsimp only; omega)) (Nat.le_of_eq (g.c3 hC (by first | omega | (intro _ _; omega) | (dsimp only; omega) | (intro _ _; dsimp only; omega))).symm) (by decide) (by decide), ?_, ?_, kn, km, g.xt hC hR h.t (by decide) (by decide) (by decide), g.xb hC hR h.b (by decide) (by decide) (by decide), RLf.st h.f (fun x => x = 3000 + L) (hT) (Nat.le_of_eq (g.c1 hC (by first | omega | (intro _ _; omega) | (dsimp only; omega) | (intro _ _; dsimp only; omega))).symm) (Nat.le_of_eq (g.c2 hC (by first | omega | (intro _ _; omega) | (dsimp only; omega) | (intro _ _; dsimp only; omega))).symm) (Nat.le_of_eq (g.c3 hC (by first | omega | (intro _ _; omega) | (dsimp only; omega) | (intro _ _; dsimp only; omega))).symm) (Nat.le_of_eq (g.c4 hC (by first | omega | (intro _ _; omega) | (dsimp only; omega) | (intro _ _; dsimp only; omega))).symm) (Nat.le_of_eq (g.c5 hC (by first | omega | (intro _ _; omega) | (dsimp only; omega) | (intro _ _; dsimp only; omega))).symm) (by omega) (by intro n a b; first | omega | (dsimp only; omega)) (by intro n a b; first | omega | (dsimp only; omega)) (by intro n a b; first | omega | (dsimp only; omega)) (by intro n a b; first | omega | (dsimp only; omega)) (by intro n a b; refine ⟨by first | omega | (dsimp only; omega), by first | omega | (dsimp only; omega), fun i hi => ?_⟩; first | omega | (dsimp only; omega)) (by first | omega | (dsimp only; omega)) (by intro n a; first | omega | (dsimp only; omega)), ?_, g.xz hC hR h.z (by first | omega | (intro _ _; omega) | (dsimp only; omega) | (intro _ _; dsimp only; omega)) (by decide), g.xo h.o⟩
  · refine g.xrk hR h.rb (Or.inl (by decide)) (Or.inr (⟨L + 1, by omega, h771⟩)) (Or.inl (by decide)) (Or.inl (by decide)) (Or.inl (by decide)) (Or.inl (by decide)) (Or.inl (by decide)) (Or.inl (by decide)) (Or.inr (?_)) (Or.inr (?_)) (Or.inl (by decide)) (Or.inl (by decide)) (Or.inl (by decide)) (Or.inl (by decide)) (Or.inl (by decide))
    · intro j hj
      rw [r145]
      split
      · exact ⟨_, h4, rfl⟩
      · exact rb_held h.rb j hj
    · intro j hj
      rw [r146]
      split
      · exact vp_in_nI (by omega) (by decide)
      · exact rb_holds h.rb j hj
  · intro r hr
    rw [g.c5 hC (by first | omega | (intro _ _; omega) | (dsimp only; omega) | (intro _ _; dsimp only; omega))] at hr
    have aA := g.rows hR (l := [143, 144, 147, 148]) (by decide) (by decide)
    have aI := g.iC hC (l := [192, 193, 195, 196]) (by decide) hr
    simp (disch := decide) only [aA, aI]
    obtain ⟨q1, q2, q3, q4, q5, q6, q7⟩ := h.k r hr
    have hr4 := (ci_Cr hC hr).2.2.2.2
    by_cases z : r = c
    · subst z
      have ec : ct u (1800 + r) = ct w (1800 + r) + 1 := by unfold ct at *; rw [hL2, List.length_append]; rfl
      rw [r145, if_pos rfl, ec]
      refine ⟨q1, q2, rfl, fun i hi => ?_, q5, q6, q7⟩
      rw [r146]
      unfold elN
      rw [hL2]
      by_cases y : i = ct w (1800 + r)
      · subst y
        rw [if_pos rfl]
        exact congrArg nI elN_r.symm
      · have hi2 : i < ct w (1800 + r) := by omega
        rw [if_neg (by omega), q4 i hi2]
        exact congrArg nI (elN_l hi2).symm
    · have eL := g.L (ci_Cr hC hr).2.2.1.2.1 (by decide) (show ¬ (1800 + r = 1100 + m ∨ 1800 + r = 1800 + c) by omega)
      have e0 := g.cn (ci_Cr hC hr).2.2.1.2.1 (by decide) (show ¬ (1800 + r = 1100 + m ∨ 1800 + r = 1800 + c) by omega)
      unfold elN
      rw [eL, e0, r145, if_neg z]
      refine ⟨q1, q2, q3, fun i hi => ?_, q5, q6, q7⟩
      rw [r146, if_neg (by omega)]
      exact q4 i hi
  · unfold RLg
    rw [g.c1 hC (by first | omega | (intro _ _; omega) | (dsimp only; omega) | (intro _ _; dsimp only; omega)), g.c2 hC (by first | omega | (intro _ _; omega) | (dsimp only; omega) | (intro _ _; dsimp only; omega))]
    refine ⟨fun r hr => ?_, fun k hk => ?_⟩
    · have := hC.bd.2.1
      rw [g.L (ci_R hC hr).2.2.1.2.1 (by decide) (show ¬ (1300 + r = 1100 + m ∨ 1300 + r = 1800 + c) by omega)]
      refine ⟨(h.g.1 r hr).1, fun k hk => ?_⟩
      rw [g.R (k := 650) (ci_W hC hk).1 (by decide) (by decide)]
      exact (h.g.1 r hr).2 k hk
    · rw [g.R (k := 650) (ci_W hC hk).1 (by decide) (by decide), p7 _ (by omega), p8 _ (by omega)]
      by_cases z : k = m
      · subst z
        rw [if_pos rfl, if_pos rfl]
        rcases h.g.2 k hk with ⟨r, hr, a, b, d⟩ | ⟨a, b⟩
        · exact absurd b hne3
        · exact Or.inr ⟨a, by decide⟩
      · rw [if_neg z, if_neg z]
        exact h.g.2 k hk
  · unfold RLd
    rw [g.c1 hC (by first | omega | (intro _ _; omega) | (dsimp only; omega) | (intro _ _; dsimp only; omega)), g.c5 hC (by first | omega | (intro _ _; omega) | (dsimp only; omega) | (intro _ _; dsimp only; omega))]
    intro r hr
    have old : ∀ k, k < ct w 201 → 1000 + k ∈ wL w (1800 + r) → wI u 647 (1000 + k) = 2 ∧ wI u 648 (1000 + k) = nI r := fun k hk y => by
      have z : k ≠ m := fun e => hnl r hr (by rw [← e]; exact y)
      rw [p7 _ (by omega), p8 _ (by omega), if_neg z, if_neg z]
      exact (h.d r hr).2 k hk y
    by_cases z : r = c
    · subst z
      rw [hL2]
      refine ⟨List.nodup_append.mpr ⟨(h.d r hr).1, List.nodup_cons.mpr ⟨List.not_mem_nil, List.nodup_nil⟩, fun a ha b hb e => ?_⟩, fun k hk y => ?_⟩
      · rw [List.mem_singleton] at hb
        subst hb; subst e
        exact hnl r hr ha
      · rcases List.mem_append.mp y with y | y
        · exact old k hk y
        · rw [List.mem_singleton] at y
          have e : k = m := by omega
          subst e
          rw [p7 _ (by omega), p8 _ (by omega), if_pos rfl, if_pos rfl]
          exact ⟨rfl, rfl⟩
    · rw [g.L (ci_Cr hC hr).2.2.1.2.1 (by decide) (show ¬ (1800 + r = 1100 + m ∨ 1800 + r = 1800 + c) by omega)]
      exact ⟨(h.d r hr).1, old⟩
  · have aA := g.rows hR (l := [127, 128]) (by decide) (by decide)
    unfold RLv
    rw [g.c1 hC (by first | omega | (intro _ _; omega) | (dsimp only; omega) | (intro _ _; dsimp only; omega)), g.c2 hC (by first | omega | (intro _ _; omega) | (dsimp only; omega) | (intro _ _; dsimp only; omega)), g.c5 hC (by first | omega | (intro _ _; omega) | (dsimp only; omega) | (intro _ _; dsimp only; omega))]
    simp (disch := decide) only [aA]
    refine ⟨h.v.1, fun k hk hk2 => ?_, fun k hk hk4 => ?_⟩
    · rw [r145, if_neg (by omega)]; exact h.v.2.1 k hk hk2
    · rw [r110, if_neg (by omega)]; exact h.v.2.2 k hk hk4
theorem rl_pack {n L m c : Nat} {w : AW} {y : Int64} (h : Rel n w) (hn : n < 512) (hm : m < ct w 201) (hcr : c < ct w 205) (h4 : ct w (1800 + c) < 4) (hp : wI w 647 (1000 + m) = 0 ∨ wI w 647 (1000 + m) = 1) (hk : L ≤ 4 * n) (eL : wI w 771 100 = nI L) : Rel (n + 1) (sI (sA (sA (sA (sA (sA (sA (sA (sA (sI (sJ (mvW (sL w (1800 + c) (wL w (1800 + c) ++ [1000 + m])) m 2 (nI c) L) 222 0 y) 768 100 0) 146 (4 * c + ct w (1800 + c)) (nI m)) 145 c (nI (ct w (1800 + c) + 1))) 110 m 2) 111 m (nI c)) 113 L (nI m)) 114 L (wI w 716 200)) 115 L 2) 116 L (nI c)) 771 100 (nI (L + 1))) := by
  have f3 : wT w (3000 + L) = 0 := h.f.2.2.2.2.2.2 L (by rw [eL, nI_clamp (by omega)]; exact Nat.le_refl _)
  have hC := h.ci
  have b40 := hC.bd.1
  have b20 := hC.bd.2.2.2.2
  refine ru_pack (L := L) (m := m) (c := c) h hn hcr h4 hp ?_ hm hk eL ?_ (fun x hx => ?_) ?_ ?_ (fun k hk => ?_) (fun k hk => ?_) (fun j => ?_) (fun j => ?_) (fun j => ?_) (fun j => ?_) (fun j => ?_) (fun j => ?_) rfl ?_ (fun j => ?_) (fun j => ?_)
  · unfold mvW
    refine AX.oI ?_ (Or.inr (by decide))
    refine AX.oA ?_ (Or.inr (by decide))
    refine AX.oA ?_ (Or.inr (by decide))
    refine AX.oA ?_ (Or.inr (by decide))
    refine AX.oA ?_ (Or.inr (by decide))
    refine AX.oA ?_ (Or.inr (by decide))
    refine AX.oA ?_ (Or.inr (by decide))
    refine AX.oA ?_ (Or.inr (by decide))
    refine AX.oA ?_ (Or.inr (by decide))
    refine AX.oI ?_ (Or.inr (by decide))
    refine AX.oJ ?_
    refine AX.oL ?_ (Or.inr (Or.inl rfl))
    refine AX.oI ?_ (Or.inl f3)
    refine AX.oI ?_ (Or.inl f3)
    refine AX.oI ?_ (Or.inl f3)
    refine AX.mO ?_ f3
    refine AX.oI ?_ (Or.inr (by decide))
    refine AX.oI ?_ (Or.inr (by decide))
    refine AX.oL ?_ (Or.inr (Or.inr rfl))
    exact AX.refl
  · rw [CIv_771, CIv_sA, CIv_sA, CIv_sA, CIv_sA, CIv_sA, CIv_sA, CIv_sA, CIv_sA, CIv_thr, CIv_out]
    have q : CIv (sL w (1800 + c) (wL w (1800 + c) ++ [1000 + m])) := CIv_load hC hcr (by rw [List.length_append]; exact h4) (fun q hq => by
      rcases List.mem_append.mp hq with y | y
      · exact (ci_Cr hC hcr).2.2.2.1 q y
      · rw [List.mem_singleton] at y; exact ⟨m, hm, y⟩)
    have e1 : ∀ t, t ≠ 1800 + c → ct (sL w (1800 + c) (wL w (1800 + c) ++ [1000 + m])) t = ct w t := fun t ht => by unfold ct; rw [wL_sL, if_neg ht]
    refine mvW_ci q (by rw [e1 _ (by omega)]; exact hm) ?_ f3
    rw [e1 _ (by omega)]
    exact Nat.lt_of_le_of_lt (h.m.2.1 m hm) (by omega)
  · unfold mvW
    simp only [wT_sI, wT_sA, wT_sJ, wT_sL, wT_nO]
    rw [if_neg hx]
  · unfold mvW
    simp only [wL_sI, wL_sA, wL_sJ]
    rw [wL_sL, if_pos rfl, wL_sL, if_neg (by omega)]
  · unfold lnV mvW
    simp only [wI_sI, wI_sA, wI_sJ, wI_sL, wI_nO, Nat.reduceEqDiff, reduceIte, if_true, if_false]
  · unfold mvW
    simp only [wI_sI, wI_sA, wI_sJ, wI_sL, wI_nO, wI_sR, Nat.reduceEqDiff, reduceIte, if_true, if_false]
    rw [if_neg (by omega)]
    try simp only [Nat.reduceEqDiff, reduceIte, if_true, if_false]
    try (by_cases z : k = m
         · rw [if_pos z, if_pos (by omega)]
         · rw [if_neg z, if_neg (by omega)])
  · unfold mvW
    simp only [wI_sI, wI_sA, wI_sJ, wI_sL, wI_nO, wI_sR, Nat.reduceEqDiff, reduceIte, if_true, if_false]
    rw [if_neg (by omega)]
    try simp only [Nat.reduceEqDiff, reduceIte, if_true, if_false]
    try (by_cases z : k = m
         · rw [if_pos z, if_pos (by omega)]
         · rw [if_neg z, if_neg (by omega)])
  · unfold mvW
    simp only [wA_sI, wA_sA, wA_sJ, wA_sL, wA_nO, wA_sR, Nat.reduceEqDiff, reduceIte, if_true, if_false]
    try rfl
  · unfold mvW
    simp only [wA_sI, wA_sA, wA_sJ, wA_sL, wA_nO, wA_sR, Nat.reduceEqDiff, reduceIte, if_true, if_false]
    try rfl
  · unfold mvW
    simp only [wA_sI, wA_sA, wA_sJ, wA_sL, wA_nO, wA_sR, Nat.reduceEqDiff, reduceIte, if_true, if_false]
    try rfl
  · unfold mvW
    simp only [wA_sI, wA_sA, wA_sJ, wA_sL, wA_nO, wA_sR, Nat.reduceEqDiff, reduceIte, if_true, if_false]
    try rfl
  · unfold mvW
    simp only [wA_sI, wA_sA, wA_sJ, wA_sL, wA_nO, wA_sR, Nat.reduceEqDiff, reduceIte, if_true, if_false]
    try rfl
  · unfold mvW
    simp only [wA_sI, wA_sA, wA_sJ, wA_sL, wA_nO, wA_sR, Nat.reduceEqDiff, reduceIte, if_true, if_false]
    try rfl
  · unfold mvW
    simp only [wL_sI, wL_sA, wL_sJ, wL_sL, wL_nO]
    rw [if_neg (by omega), if_neg (by omega)]
    simp only [if_true]
  · unfold mvW
    simp only [wA_sI, wA_sA, wA_sJ, wA_sL, wA_nO, wA_sR, Nat.reduceEqDiff, reduceIte, if_true, if_false]
    try rfl
  · unfold mvW
    simp only [wA_sI, wA_sA, wA_sJ, wA_sL, wA_nO, wA_sR, Nat.reduceEqDiff, reduceIte, if_true, if_false]
    try rfl

