theorem nodup_le : ∀ (N : Nat) (l : List Nat), l.Nodup → (∀ q ∈ l, q < N) → l.length ≤ N
  | 0, l, _, h => by
    cases l with
    | nil => exact Nat.le_refl _
    | cons a l => exact absurd (h a (List.mem_cons_self ..)) (Nat.not_lt_zero _)
  | N + 1, l, hd, h => by
    have e := nodup_le N (l.erase N) (hd.erase N) (fun q hq => by
      have h1 := (hd.mem_erase_iff).mp hq
      have h2 := h q h1.2
      have h3 := h1.1
      omega)
    by_cases z : N ∈ l
    · rw [List.length_erase_of_mem z] at e; omega
    · rw [List.erase_of_not_mem z] at e; omega
/-- fewer hang than there are works, where one does not hang -/
theorem hung_lt {n m r : Nat} {w : AW} (h : Rel n w) (hm : m < ct w 201) (hr : r < ct w 202) (hp : ¬ wI w 647 (1000 + m) = 3) : ct w (1300 + r) < 40 ∧ 1000 + m ∉ wL w (1300 + r) := by
  have hC := h.ci
  have b40 := hC.bd.1
  have h1 : 1000 + m ∉ wL w (1300 + r) := fun y => by
    have q := ((h.g.1 r hr).2 m hm).mp y
    rcases h.g.2 m hm with ⟨r', hr', a, b, d⟩ | ⟨a, b⟩
    · exact hp b
    · rw [a] at q; cases q
  refine ⟨?_, h1⟩
  have q := nodup_le (1000 + ct w 201) ((wL w (1300 + r) ++ [1000 + m]) ++ List.range 1000) ?_ ?_
  · rw [List.length_append, List.length_append, List.length_range] at q
    have q : ct w (1300 + r) + 1 + 1000 ≤ 1000 + ct w 201 := q
    omega
  · refine List.nodup_append.mpr ⟨List.nodup_append.mpr ⟨(h.g.1 r hr).1, List.nodup_cons.mpr ⟨List.not_mem_nil, List.nodup_nil⟩, fun a ha b hb e => ?_⟩, List.nodup_range, fun a ha b hb e => ?_⟩
    · rw [List.mem_singleton] at hb
      subst hb; subst e; exact h1 ha
    · rw [List.mem_range] at hb
      rcases List.mem_append.mp ha with y | y
      · obtain ⟨j, hj, e2⟩ := (ci_R hC hr).2.2.2.1 a y
        omega
      · rw [List.mem_singleton] at y; omega
  · intro q hq
    rcases List.mem_append.mp hq with y | y
    · rcases List.mem_append.mp y with y | y
      · obtain ⟨j, hj, e2⟩ := (ci_R hC hr).2.2.2.1 q y
        omega
      · rw [List.mem_singleton] at y; omega
    · rw [List.mem_range] at y; omega
theorem ru_hang {n L m r : Nat} {w u : AW} (h : Rel n w) (hn : n < 512) (hr : r < ct w 202) (g : AX [647, 648, 650, 768, 771] [110, 111, 113, 114, 115, 116, 128, 129] (fun y => y = 1100 + m ∨ y = 1300 + r) w u) (hm : m < ct w 201) (hk : L ≤ 4 * n) (eL : wI w 771 100 = nI L) (hI : CIv u) (hT : ∀ x, ¬ x = 3000 + L → wT u x = wT w x) (hL1 : wL u (1100 + m) = wL w (1100 + m) ++ [3000 + L]) (iL : lnV u (3000 + L) = (wI w 716 200, 3, nI r)) (p7 : ∀ k, k < 40 → wI u 647 (1000 + k) = if k = m then 3 else wI w 647 (1000 + k)) (p8 : ∀ k, k < 40 → wI u 648 (1000 + k) = if k = m then nI r else wI w 648 (1000 + k)) (r110 : ∀ j, wA u 110 j = if j = m then 3 else wA w 110 j) (r111 : ∀ j, wA u 111 j = if j = m then nI r else wA w 111 j) (r113 : ∀ j, wA u 113 j = if j = L then nI m else wA w 113 j) (r114 : ∀ j, wA u 114 j = if j = L then wI w 716 200 else wA w 114 j) (r115 : ∀ j, wA u 115 j = if j = L then 3 else wA w 115 j) (r116 : ∀ j, wA u 116 j = if j = L then nI r else wA w 116 j) (h771 : wI u 771 100 = nI (L + 1)) (hp : wI w 647 (1000 + m) = 1) (hL2 : wL u (1300 + r) = wL w (1300 + r) ++ [1000 + m]) (hR5 : ∀ k, k < 40 → wR u 650 (1000 + k) = if k = m then some (1200 + r) else wR w 650 (1000 + k)) (r128 : ∀ j, wA u 128 j = if j = r then nI (ct w (1300 + r) + 1) else wA w 128 j) (r129 : ∀ j, wA u 129 j = if j = 40 * r + ct w (1300 + r) then nI m else wA w 129 j) : Rel (n + 1) u := by
  have hC := h.ci
  have hR := h.ri
  have b40 := hC.bd.1
  have eL1 : (wI w 771 100).toNatClampNeg = L := by rw [eL, nI_clamp (by omega)]
  have eL2 : (wI u 771 100).toNatClampNeg = L + 1 := by rw [h771, nI_clamp (by omega)]
  have b20 := hC.bd.2.1
  have l0 : ∀ k, k ≠ m → k < 40 → ¬ (1100 + k = 1100 + m ∨ 1100 + k = 1300 + r) := fun k a b => by omega
  obtain ⟨kw, kn, km⟩ := mv_core h hn g (by omega) l0 (by decide) (by decide) hm hk eL hI hT hL1 iL p7 p8 r110 r111 r113 r114 r115 r116 h771
  have hne3 : ¬ wI w 647 (1000 + m) = 3 := by rw [hp]; decide
  have hne2 : ¬ wI w 647 (1000 + m) = 2 := by rw [hp]; decide
  obtain ⟨h40, hni⟩ := hung_lt h hm hr hne3
  have hno : wR w 650 (1000 + m) = none := by
    rcases h.g.2 m hm with ⟨r', hr', a, b, d⟩ | ⟨a, b⟩
    · exact absurd b hne3
    · exact a
  have hlen : ∀ q, q < ct w 202 → ct w (1300 + q) ≤ 40 := fun q hq => by
    have a := (h.r q hq).2.2.2.2.2.2.1
    obtain ⟨j, hj, e⟩ := rb_hung h.rb q (by omega)
    rw [a] at e
    have hm2 : ct w (1300 + q) ≤ 2190 := (ci_R hC hq).2.2.1.2.2.1
    have := (nI_eq (by omega) (by omega)).mp e
    omega
  have hnl : ∀ c', c' < ct w 205 → 1000 + m ∉ wL w (1800 + c') := fun c' hc' y => hne2 ((h.d c' hc').2 m hm y).1
  refine ⟨hI, g.xri hR (by decide), ?_, g.xc hC hR h.c (by first | omega | (intro _ _; omega) | (dsimp only; omega) | (intro _ _; dsimp only; omega)) (by first | omega | (intro _ _; omega) | (dsimp only; omega) | (intro _ _; dsimp only; omega)) (by first | omega | (intro _ _; omega) | (dsimp only; omega) | (intro _ _; dsimp only; omega)) (by first | omega | (intro _ _; omega) | (dsimp only; omega) | (intro _ _; dsimp only; omega)) (by first | omega | (intro _ _; omega) | (dsimp only; omega) | (intro _ _; dsimp only; omega)) (by decide), kw, g.xl hC hR h.l (by first | omega | (intro _ _; omega) | (dsimp only; omega) | (intro _ _; dsimp only; omega)) (by first | omega | (intro _ _; omega) | (dsimp only; omega) | (intro _ _; dsimp only; omega)) (by decide) (by decide), ?_, g.xk hC hR h.k (by first | omega | (intro _ _; omega) | (dsimp only; omega) | (intro _ _; dsimp only; omega)) (by first | omega | (intro _ _; omega) | (dsimp only; omega) | (intro _ _; dsimp only; omega)) (by decide) (by decide), g.xu hC hR h.u (by decide) (by decide) (by decide), g.xs hC hR h.s (by first | omega | (intro _ _; omega) | (dsimp only; omega) | (intro _ _; dsimp only; omega)) (by intro q hq; simp only [List.mem_cons, List.not_mem_nil, or_false] at hq <;> omega) (by intro q hq; simp only [List.mem_cons, List.not_mem_nil, or_false] at hq <;> omega) (by decide), g.xa hC hR h.a (by first | omega | (intro _ _; omega) | (dsimp only; omega) | (intro _ _; dsimp only; omega)) (Nat.le_of_eq (g.c3 hC (by first | omega | (intro _ _; omega) | (dsimp only; omega) | (intro _ _; dsimp only; omega))).symm) (by decide) (by decide), ?_, ?_, kn, km, g.xt hC hR h.t (by decide) (by decide) (by decide), g.xb hC hR h.b (by decide) (by decide) (by decide), RLf.st h.f (fun x => x = 3000 + L) (hT) (Nat.le_of_eq (g.c1 hC (by first | omega | (intro _ _; omega) | (dsimp only; omega) | (intro _ _; dsimp only; omega))).symm) (Nat.le_of_eq (g.c2 hC (by first | omega | (intro _ _; omega) | (dsimp only; omega) | (intro _ _; dsimp only; omega))).symm) (Nat.le_of_eq (g.c3 hC (by first | omega | (intro _ _; omega) | (dsimp only; omega) | (intro _ _; dsimp only; omega))).symm) (Nat.le_of_eq (g.c4 hC (by first | omega | (intro _ _; omega) | (dsimp only; omega) | (intro _ _; dsimp only; omega))).symm) (Nat.le_of_eq (g.c5 hC (by first | omega | (intro _ _; omega) | (dsimp only; omega) | (intro _ _; dsimp only; omega))).symm) (by omega) (by intro n a b; first | omega | (dsimp only; omega)) (by intro n a b; first | omega | (dsimp only; omega)) (by intro n a b; first | omega | (dsimp only; omega)) (by intro n a b; first | omega | (dsimp only; omega)) (by intro n a b; refine ⟨by first | omega | (dsimp only; omega), by first | omega | (dsimp only; omega), fun i hi => ?_⟩; first | omega | (dsimp only; omega)) (by first | omega | (dsimp only; omega)) (by intro n a; first | omega | (dsimp only; omega)), ?_, g.xz hC hR h.z (by first | omega | (intro _ _; omega) | (dsimp only; omega) | (intro _ _; dsimp only; omega)) (by decide), g.xo h.o⟩
  · refine g.xrk hR h.rb (Or.inl (by decide)) (Or.inr (⟨L + 1, by omega, h771⟩)) (Or.inl (by decide)) (Or.inl (by decide)) (Or.inl (by decide)) (Or.inl (by decide)) (Or.inl (by decide)) (Or.inl (by decide)) (Or.inl (by decide)) (Or.inl (by decide)) (Or.inr (?_)) (Or.inr (?_)) (Or.inl (by decide)) (Or.inl (by decide)) (Or.inl (by decide))
    · intro j hj
      rw [r128]
      split
      · exact ⟨_, h40, rfl⟩
      · exact rb_hung h.rb j hj
    · intro j hj
      rw [r129]
      split
      · exact vp_in_nI (by omega) (by decide)
      · exact rb_wallOf h.rb j hj
  · intro q hq
    rw [g.c2 hC (by first | omega | (intro _ _; omega) | (dsimp only; omega) | (intro _ _; dsimp only; omega))] at hq
    have aA := g.rows hR (l := [121, 122, 123, 124, 125, 127]) (by decide) (by decide)
    have aI := g.iR hC (l := [512, 513, 514, 515, 516, 522]) (by decide) hq
    simp (disch := decide) only [aA, aI]
    obtain ⟨q1, q2, q3, q4, q5, q6, q7, q8⟩ := h.r q hq
    by_cases z : q = r
    · subst z
      have ec : ct u (1300 + q) = ct w (1300 + q) + 1 := by unfold ct at *; rw [hL2, List.length_append]; rfl
      rw [r128, if_pos rfl, ec]
      refine ⟨q1, q2, q3, q4, q5, q6, rfl, fun i hi => ?_⟩
      rw [r129]
      unfold elN
      rw [hL2]
      by_cases y : i = ct w (1300 + q)
      · subst y
        rw [if_pos rfl]
        exact congrArg nI elN_r.symm
      · have hi2 : i < ct w (1300 + q) := by omega
        rw [if_neg (by omega), q8 i hi2]
        exact congrArg nI (elN_l hi2).symm
    · have eL := g.L (ci_R hC hq).2.2.1.2.1 (by decide) (show ¬ (1300 + q = 1100 + m ∨ 1300 + q = 1300 + r) by omega)
      have e0 := g.cn (ci_R hC hq).2.2.1.2.1 (by decide) (show ¬ (1300 + q = 1100 + m ∨ 1300 + q = 1300 + r) by omega)
      unfold elN
      rw [eL, e0, r128, if_neg z]
      refine ⟨q1, q2, q3, q4, q5, q6, q7, fun i hi => ?_⟩
      have hi40 := hlen q hq
      rw [r129, if_neg (by omega)]
      exact q8 i hi
  · unfold RLg
    rw [g.c1 hC (by first | omega | (intro _ _; omega) | (dsimp only; omega) | (intro _ _; dsimp only; omega)), g.c2 hC (by first | omega | (intro _ _; omega) | (dsimp only; omega) | (intro _ _; dsimp only; omega))]
    refine ⟨fun q hq => ?_, fun k hk => ?_⟩
    · by_cases z : q = r
      · subst z
        rw [hL2]
        refine ⟨List.nodup_append.mpr ⟨(h.g.1 q hq).1, List.nodup_cons.mpr ⟨List.not_mem_nil, List.nodup_nil⟩, fun a ha b hb e => ?_⟩, fun k hk => ?_⟩
        · rw [List.mem_singleton] at hb
          subst hb; subst e; exact hni ha
        · rw [hR5 _ (by omega), List.mem_append, List.mem_singleton]
          by_cases y : k = m
          · rw [if_pos y]
            exact ⟨fun _ => rfl, fun _ => Or.inr (by omega)⟩
          · rw [if_neg y, ← (h.g.1 q hq).2 k hk]
            exact ⟨fun a => a.resolve_right (by omega), Or.inl⟩
      · rw [g.L (ci_R hC hq).2.2.1.2.1 (by decide) (show ¬ (1300 + q = 1100 + m ∨ 1300 + q = 1300 + r) by omega)]
        refine ⟨(h.g.1 q hq).1, fun k hk => ?_⟩
        rw [hR5 _ (by omega)]
        by_cases y : k = m
        · subst y
          rw [if_pos rfl]
          refine ⟨fun a => ?_, fun a => ?_⟩
          · have b := ((h.g.1 q hq).2 k hk).mp a
            rw [hno] at b; cases b
          · have := Option.some.inj a
            omega
        · rw [if_neg y]; exact (h.g.1 q hq).2 k hk
    · rw [hR5 _ (by omega), p7 _ (by omega), p8 _ (by omega)]
      by_cases y : k = m
      · rw [if_pos y, if_pos y, if_pos y]
        exact Or.inl ⟨r, hr, rfl, rfl, rfl⟩
      · rw [if_neg y, if_neg y, if_neg y]; exact h.g.2 k hk
  · unfold RLd
    rw [g.c1 hC (by first | omega | (intro _ _; omega) | (dsimp only; omega) | (intro _ _; dsimp only; omega)), g.c5 hC (by first | omega | (intro _ _; omega) | (dsimp only; omega) | (intro _ _; dsimp only; omega))]
    intro q hq
    have := hC.bd.2.2.2.2
    rw [g.L (ci_Cr hC hq).2.2.1.2.1 (by decide) (show ¬ (1800 + q = 1100 + m ∨ 1800 + q = 1300 + r) by omega)]
    refine ⟨(h.d q hq).1, fun k hk y => ?_⟩
    have z : k ≠ m := fun e => hnl q hq (by rw [← e]; exact y)
    rw [p7 _ (by omega), p8 _ (by omega), if_neg z, if_neg z]
    exact (h.d q hq).2 k hk y
  · have aA := g.rows hR (l := [127, 145]) (by decide) (by decide)
    unfold RLv
    rw [g.c1 hC (by first | omega | (intro _ _; omega) | (dsimp only; omega) | (intro _ _; dsimp only; omega)), g.c2 hC (by first | omega | (intro _ _; omega) | (dsimp only; omega) | (intro _ _; dsimp only; omega)), g.c5 hC (by first | omega | (intro _ _; omega) | (dsimp only; omega) | (intro _ _; dsimp only; omega))]
    simp (disch := decide) only [aA]
    refine ⟨fun k hk hk2 => ?_, h.v.2.1, fun k hk hk4 => ?_⟩
    · rw [r128, if_neg (by omega)]; exact h.v.1 k hk hk2
    · rw [r110, if_neg (by omega)]; exact h.v.2.2 k hk hk4
theorem ru_down {n L m r : Nat} {w u : AW} {X : Int32} (h : Rel n w) (hn : n < 512) (hr : r < ct w 202) (g : AX [647, 648, 650, 768, 771] [110, 111, 113, 114, 115, 116, 128, 129] (fun y => y = 1100 + m ∨ y = 1300 + r) w u) (hm : m < ct w 201) (hk : L ≤ 4 * n) (eL : wI w 771 100 = nI L) (hI : CIv u) (hT : ∀ x, ¬ x = 3000 + L → wT u x = wT w x) (hL1 : wL u (1100 + m) = wL w (1100 + m) ++ [3000 + L]) (iL : lnV u (3000 + L) = (wI w 716 200, 1, X)) (p7 : ∀ k, k < 40 → wI u 647 (1000 + k) = if k = m then 1 else wI w 647 (1000 + k)) (p8 : ∀ k, k < 40 → wI u 648 (1000 + k) = if k = m then X else wI w 648 (1000 + k)) (r110 : ∀ j, wA u 110 j = if j = m then 1 else wA w 110 j) (r111 : ∀ j, wA u 111 j = if j = m then X else wA w 111 j) (r113 : ∀ j, wA u 113 j = if j = L then nI m else wA w 113 j) (r114 : ∀ j, wA u 114 j = if j = L then wI w 716 200 else wA w 114 j) (r115 : ∀ j, wA u 115 j = if j = L then 1 else wA w 115 j) (r116 : ∀ j, wA u 116 j = if j = L then X else wA w 116 j) (h771 : wI u 771 100 = nI (L + 1)) (hso : wR w 650 (1000 + m) = some (1200 + r)) (hL2 : wL u (1300 + r) = (wL w (1300 + r)).erase (1000 + m)) (hR5 : ∀ k, k < 40 → wR u 650 (1000 + k) = if k = m then none else wR w 650 (1000 + k)) (l1 l2 : List Nat) (hl : wL w (1300 + r) = l1 ++ (1000 + m) :: l2) (hl1 : 1000 + m ∉ l1) (r128 : ∀ j, wA u 128 j = if j = r then nI (l1.length + l2.length) else wA w 128 j) (r129 : ∀ j, wA u 129 j = if 40 * r + l1.length ≤ j ∧ j < 40 * r + l1.length + l2.length then wA w 129 (j + 1) else wA w 129 j) : Rel (n + 1) u := by
  have hC := h.ci
  have hR := h.ri
  have b40 := hC.bd.1
  have eL1 : (wI w 771 100).toNatClampNeg = L := by rw [eL, nI_clamp (by omega)]
  have eL2 : (wI u 771 100).toNatClampNeg = L + 1 := by rw [h771, nI_clamp (by omega)]
  have b20 := hC.bd.2.1
  have l0 : ∀ k, k ≠ m → k < 40 → ¬ (1100 + k = 1100 + m ∨ 1100 + k = 1300 + r) := fun k a b => by omega
  obtain ⟨kw, kn, km⟩ := mv_core h hn g (by omega) l0 (by decide) (by decide) hm hk eL hI hT hL1 iL p7 p8 r110 r111 r113 r114 r115 r116 h771
  have hne2 : ¬ wI w 647 (1000 + m) = 2 := by
    rcases h.g.2 m hm with ⟨r', hr', a, b, d⟩ | ⟨a, b⟩
    · rw [b]; decide
    · rw [hso] at a; cases a
  have hlen : ∀ q, q < ct w 202 → ct w (1300 + q) ≤ 40 := fun q hq => by
    have a := (h.r q hq).2.2.2.2.2.2.1
    obtain ⟨j, hj, e⟩ := rb_hung h.rb q (by omega)
    rw [a] at e
    have hm2 : ct w (1300 + q) ≤ 2190 := (ci_R hC hq).2.2.1.2.2.1
    have := (nI_eq (by omega) (by omega)).mp e
    omega
  have hct : ct w (1300 + r) = l1.length + l2.length + 1 := by unfold ct; rw [hl, List.length_append]; rfl
  have h40 := hlen r hr
  have hnl : ∀ c', c' < ct w 205 → 1000 + m ∉ wL w (1800 + c') := fun c' hc' y => hne2 ((h.d c' hc').2 m hm y).1
  refine ⟨hI, g.xri hR (by decide), ?_, g.xc hC hR h.c (by first | omega | (intro _ _; omega) | (dsimp only; omega) | (intro _ _; dsimp only; omega)) (by first | omega | (intro _ _; omega) | (dsimp only; omega) | (intro _ _; dsimp only; omega)) (by first | omega | (intro _ _; omega) | (dsimp only; omega) | (intro _ _; dsimp only; omega)) (by first | omega | (intro _ _; omega) | (dsimp only; omega) | (intro _ _; dsimp only; omega)) (by first | omega | (intro _ _; omega) | (dsimp only; omega) | (intro _ _; dsimp only; omega)) (by decide), kw, g.xl hC hR h.l (by first | omega | (intro _ _; omega) | (dsimp only; omega) | (intro _ _; dsimp only; omega)) (by first | omega | (intro _ _; omega) | (dsimp only; omega) | (intro _ _; dsimp only; omega)) (by decide) (by decide), ?_, g.xk hC hR h.k (by first | omega | (intro _ _; omega) | (dsimp only; omega) | (intro _ _; dsimp only; omega)) (by first | omega | (intro _ _; omega) | (dsimp only; omega) | (intro _ _; dsimp only; omega)) (by decide) (by decide), g.xu hC hR h.u (by decide) (by decide) (by decide), g.xs hC hR h.s (by first | omega | (intro _ _; omega) | (dsimp only; omega) | (intro _ _; dsimp only; omega)) (by intro q hq; simp only [List.mem_cons, List.not_mem_nil, or_false] at hq <;> omega) (by intro q hq; simp only [List.mem_cons, List.not_mem_nil, or_false] at hq <;> omega) (by decide), g.xa hC hR h.a (by first | omega | (intro _ _; omega) | (dsimp only; omega) | (intro _ _; dsimp only; omega)) (Nat.le_of_eq (g.c3 hC (by first | omega | (intro _ _; omega) | (dsimp only; omega) | (intro _ _; dsimp only; omega))).symm) (by decide) (by decide), ?_, ?_, kn, km, g.xt hC hR h.t (by decide) (by decide) (by decide), g.xb hC hR h.b (by decide) (by decide) (by decide), RLf.st h.f (fun x => x = 3000 + L) (hT) (Nat.le_of_eq (g.c1 hC (by first | omega | (intro _ _; omega) | (dsimp only; omega) | (intro _ _; dsimp only; omega))).symm) (Nat.le_of_eq (g.c2 hC (by first | omega | (intro _ _; omega) | (dsimp only; omega) | (intro _ _; dsimp only; omega))).symm) (Nat.le_of_eq (g.c3 hC (by first | omega | (intro _ _; omega) | (dsimp only; omega) | (intro _ _; dsimp only; omega))).symm) (Nat.le_of_eq (g.c4 hC (by first | omega | (intro _ _; omega) | (dsimp only; omega) | (intro _ _; dsimp only; omega))).symm) (Nat.le_of_eq (g.c5 hC (by first | omega | (intro _ _; omega) | (dsimp only; omega) | (intro _ _; dsimp only; omega))).symm) (by omega) (by intro n a b; first | omega | (dsimp only; omega)) (by intro n a b; first | omega | (dsimp only; omega)) (by intro n a b; first | omega | (dsimp only; omega)) (by intro n a b; first | omega | (dsimp only; omega)) (by intro n a b; refine ⟨by first | omega | (dsimp only; omega), by first | omega | (dsimp only; omega), fun i hi => ?_⟩; first | omega | (dsimp only; omega)) (by first | omega | (dsimp only; omega)) (by intro n a; first | omega | (dsimp only; omega)), ?_, g.xz hC hR h.z (by first | omega | (intro _ _; omega) | (dsimp only; omega) | (intro _ _; dsimp only; omega)) (by decide), g.xo h.o⟩
  · refine g.xrk hR h.rb (Or.inl (by decide)) (Or.inr (⟨L + 1, by omega, h771⟩)) (Or.inl (by decide)) (Or.inl (by decide)) (Or.inl (by decide)) (Or.inl (by decide)) (Or.inl (by decide)) (Or.inl (by decide)) (Or.inl (by decide)) (Or.inl (by decide)) (Or.inr (?_)) (Or.inr (?_)) (Or.inl (by decide)) (Or.inl (by decide)) (Or.inl (by decide))
    · intro j hj
      rw [r128]
      split
      · exact ⟨_, by omega, rfl⟩
      · exact rb_hung h.rb j hj
    · intro j hj
      rw [r129]
      split
      · exact rb_wallOf h.rb _ (by omega)
      · exact rb_wallOf h.rb j hj
  · intro q hq
    rw [g.c2 hC (by first | omega | (intro _ _; omega) | (dsimp only; omega) | (intro _ _; dsimp only; omega))] at hq
    have aA := g.rows hR (l := [121, 122, 123, 124, 125, 127]) (by decide) (by decide)
    have aI := g.iR hC (l := [512, 513, 514, 515, 516, 522]) (by decide) hq
    simp (disch := decide) only [aA, aI]
    obtain ⟨q1, q2, q3, q4, q5, q6, q7, q8⟩ := h.r q hq
    by_cases z : q = r
    · subst z
      have ele : (l1 ++ (1000 + m) :: l2).erase (1000 + m) = l1 ++ l2 := by
        rw [List.erase_append_right _ hl1, List.erase_cons_head]
      rw [hl, ele] at hL2
      have ec : ct u (1300 + q) = l1.length + l2.length := by unfold ct at *; rw [hL2, List.length_append]
      rw [r128, if_pos rfl, ec]
      refine ⟨q1, q2, q3, q4, q5, q6, rfl, fun i hi => ?_⟩
      rw [r129]
      unfold elN at *
      rw [hL2]
      rw [hl] at q8
      by_cases y : i < l1.length
      · rw [if_neg (by omega), q8 i (by omega), List.getElem?_append_left y, List.getElem?_append_left y]
      · rw [if_pos (by omega), show 40 * q + i + 1 = 40 * q + (i + 1) by omega, q8 (i + 1) (by omega), List.getElem?_append_right (by omega), List.getElem?_append_right (by omega), show i + 1 - l1.length = (i - l1.length) + 1 by omega, List.getElem?_cons_succ]
    · have eL := g.L (ci_R hC hq).2.2.1.2.1 (by decide) (show ¬ (1300 + q = 1100 + m ∨ 1300 + q = 1300 + r) by omega)
      have e0 := g.cn (ci_R hC hq).2.2.1.2.1 (by decide) (show ¬ (1300 + q = 1100 + m ∨ 1300 + q = 1300 + r) by omega)
      unfold elN
      rw [eL, e0, r128, if_neg z]
      refine ⟨q1, q2, q3, q4, q5, q6, q7, fun i hi => ?_⟩
      have hi40 := hlen q hq
      rw [r129, if_neg (by omega)]
      exact q8 i hi
  · unfold RLg
    rw [g.c1 hC (by first | omega | (intro _ _; omega) | (dsimp only; omega) | (intro _ _; dsimp only; omega)), g.c2 hC (by first | omega | (intro _ _; omega) | (dsimp only; omega) | (intro _ _; dsimp only; omega))]
    refine ⟨fun q hq => ?_, fun k hk => ?_⟩
    · by_cases z : q = r
      · subst z
        rw [hL2]
        refine ⟨(h.g.1 q hq).1.erase _, fun k hk => ?_⟩
        rw [hR5 _ (by omega), (h.g.1 q hq).1.mem_erase_iff]
        by_cases y : k = m
        · rw [if_pos y]
          exact ⟨fun a => absurd (by omega) a.1, fun a => by cases a⟩
        · rw [if_neg y, ← (h.g.1 q hq).2 k hk]
          exact ⟨fun a => a.2, fun a => ⟨by omega, a⟩⟩
      · rw [g.L (ci_R hC hq).2.2.1.2.1 (by decide) (show ¬ (1300 + q = 1100 + m ∨ 1300 + q = 1300 + r) by omega)]
        refine ⟨(h.g.1 q hq).1, fun k hk => ?_⟩
        rw [hR5 _ (by omega)]
        by_cases y : k = m
        · subst y
          rw [if_pos rfl]
          refine ⟨fun a => ?_, fun a => by cases a⟩
          have b := ((h.g.1 q hq).2 k hk).mp a
          rw [hso] at b
          have := Option.some.inj b
          omega
        · rw [if_neg y]; exact (h.g.1 q hq).2 k hk
    · rw [hR5 _ (by omega), p7 _ (by omega), p8 _ (by omega)]
      by_cases y : k = m
      · rw [if_pos y, if_pos y, if_pos y]
        exact Or.inr ⟨rfl, by decide⟩
      · rw [if_neg y, if_neg y, if_neg y]; exact h.g.2 k hk
  · unfold RLd
    rw [g.c1 hC (by first | omega | (intro _ _; omega) | (dsimp only; omega) | (intro _ _; dsimp only; omega)), g.c5 hC (by first | omega | (intro _ _; omega) | (dsimp only; omega) | (intro _ _; dsimp only; omega))]
    intro q hq
    have := hC.bd.2.2.2.2
    rw [g.L (ci_Cr hC hq).2.2.1.2.1 (by decide) (show ¬ (1800 + q = 1100 + m ∨ 1800 + q = 1300 + r) by omega)]
    refine ⟨(h.d q hq).1, fun k hk y => ?_⟩
    have z : k ≠ m := fun e => hnl q hq (by rw [← e]; exact y)
    rw [p7 _ (by omega), p8 _ (by omega), if_neg z, if_neg z]
    exact (h.d q hq).2 k hk y
  · have aA := g.rows hR (l := [127, 145]) (by decide) (by decide)
    unfold RLv
    rw [g.c1 hC (by first | omega | (intro _ _; omega) | (dsimp only; omega) | (intro _ _; dsimp only; omega)), g.c2 hC (by first | omega | (intro _ _; omega) | (dsimp only; omega) | (intro _ _; dsimp only; omega)), g.c5 hC (by first | omega | (intro _ _; omega) | (dsimp only; omega) | (intro _ _; dsimp only; omega))]
    simp (disch := decide) only [aA]
    refine ⟨fun k hk hk2 => ?_, h.v.2.1, fun k hk hk4 => ?_⟩
    · rw [r128, if_neg (by omega)]; exact h.v.1 k hk hk2
    · rw [r110, if_neg (by omega)]; exact h.v.2.2 k hk hk4

