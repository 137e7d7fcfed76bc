theorem ru_room {n : Nat} {w u : AW} {a b c d e : Int32} (h : Rel n w) (hq : ct w 202 < 20) (g : AX [768, 787] [121, 122, 123, 124, 125, 126] (fun x => x = 202) w u) (hc : ct u 202 = ct w 202 + 1) (hI : CIv u) (hT : ∀ x, ¬ (x = 1200 + ct w 202 ∨ x = 1300 + ct w 202) → wT u x = wT w x) (hL : wL u (1300 + ct w 202) = []) (r121 : ∀ j, wA u 121 j = if j = ct w 202 then a else wA w 121 j) (r122 : ∀ j, wA u 122 j = if j = ct w 202 then b else wA w 122 j) (r123 : ∀ j, wA u 123 j = if j = ct w 202 then c else wA w 123 j) (r124 : ∀ j, wA u 124 j = if j = ct w 202 then d else wA w 124 j) (r125 : ∀ j, wA u 125 j = if j = ct w 202 then e else wA w 125 j) (r126 : ∀ j, wA u 126 j = if j = ct w 202 then (-1) else wA w 126 j) (i1 : wI u 512 (1200 + ct w 202) = a) (i2 : wI u 513 (1200 + ct w 202) = b) (i3 : wI u 514 (1200 + ct w 202) = c) (i4 : wI u 515 (1200 + ct w 202) = d) (i5 : wI u 516 (1200 + ct w 202) = e) (i6 : wI u 522 (1200 + ct w 202) = 0) (iR : wR u 518 (1200 + ct w 202) = none) (h787 : wI u 787 100 = nI (ct w 202 + 1)) : Rel (n + 1) u := by
  have hC := h.ci
  have hR := h.ri
  have hct : ct u (1300 + ct w 202) = 0 := by unfold ct at *; rw [hL]; rfl
  refine ⟨hI, g.xri hR (by decide), ?_, ?_, g.xw hC hR h.wk (by first | omega | (intro _ _; omega) | (dsimp only; omega) | (intro _ _; dsimp only; omega)) (by decide) (by decide), g.xl hC hR h.l (by first | omega | (intro _ _; omega) | (dsimp only; omega) | (intro _ _; dsimp only; omega)) (by first | omega | (intro _ _; omega) | (dsimp only; omega) | (intro _ _; dsimp only; omega)) (by decide) (by decide), ?_, g.xk hC hR h.k (by first | omega | (intro _ _; omega) | (dsimp only; omega) | (intro _ _; dsimp only; omega)) (by first | omega | (intro _ _; omega) | (dsimp only; omega) | (intro _ _; dsimp only; omega)) (by decide) (by decide), g.xu hC hR h.u (by decide) (by decide) (by decide), g.xs hC hR h.s (by first | omega | (intro _ _; omega) | (dsimp only; omega) | (intro _ _; dsimp only; omega)) (by intro q hq; simp only [List.mem_cons, List.not_mem_nil, or_false] at hq <;> omega) (by intro q hq; simp only [List.mem_cons, List.not_mem_nil, or_false] at hq <;> omega) (by decide), ?_, ?_, g.xd hC hR h.d (by first | omega | (intro _ _; omega) | (dsimp only; omega) | (intro _ _; dsimp only; omega)) (by first | omega | (intro _ _; omega) | (dsimp only; omega) | (intro _ _; dsimp only; omega)) (by first | omega | (intro _ _; omega) | (dsimp only; omega) | (intro _ _; dsimp only; omega)) (by decide), g.xn hC hR h.n (by first | omega | (intro _ _; omega) | (dsimp only; omega) | (intro _ _; dsimp only; omega)) (by first | omega | (intro _ _; omega) | (dsimp only; omega) | (intro _ _; dsimp only; omega)) (by decide) (by decide), (g.xm hC hR h.m (by first | omega | (intro _ _; omega) | (dsimp only; omega) | (intro _ _; dsimp only; omega)) (by first | omega | (intro _ _; omega) | (dsimp only; omega) | (intro _ _; dsimp only; omega)) (by decide)).up, g.xt hC hR h.t (by decide) (by decide) (by decide), g.xb hC hR h.b (by decide) (by decide) (by decide), RLf.st h.f (fun x => x = 1200 + ct w 202 ∨ x = 1300 + ct w 202) (hT) (Nat.le_of_eq (g.c1 hC (by first | omega | (intro _ _; omega) | (dsimp only; omega) | (intro _ _; dsimp only; omega))).symm) (by omega) (Nat.le_of_eq (g.c3 hC (by first | omega | (intro _ _; omega) | (dsimp only; omega) | (intro _ _; dsimp only; omega))).symm) (Nat.le_of_eq (g.c4 hC (by first | omega | (intro _ _; omega) | (dsimp only; omega) | (intro _ _; dsimp only; omega))).symm) (Nat.le_of_eq (g.c5 hC (by first | omega | (intro _ _; omega) | (dsimp only; omega) | (intro _ _; dsimp only; omega))).symm) (Nat.le_of_eq (congrArg _ (g.I hR.1 (by decide) (by decide)).symm)) (by intro n a b; first | omega | (dsimp only; omega)) (by intro n a b; first | omega | (dsimp only; omega)) (by intro n a b; first | omega | (dsimp only; omega)) (by intro n a b; first | omega | (dsimp only; omega)) (by intro n a b; refine ⟨by first | omega | (dsimp only; omega), by first | omega | (dsimp only; omega), fun i hi => ?_⟩; first | omega | (dsimp only; omega)) (by first | omega | (dsimp only; omega)) (by intro n a; first | omega | (dsimp only; omega)), ?_, g.xz hC hR h.z (by first | omega | (intro _ _; omega) | (dsimp only; omega) | (intro _ _; dsimp only; omega)) (by decide), g.xo h.o⟩
  · refine g.xrk hR h.rb (Or.inl (by decide)) (Or.inl (by decide)) (Or.inl (by decide)) (Or.inr (⟨ct w 202 + 1, hq, h787⟩)) (Or.inl (by decide)) (Or.inl (by decide)) (Or.inl (by decide)) (Or.inl (by decide)) (Or.inl (by decide)) (Or.inl (by decide)) (Or.inl (by decide)) (Or.inl (by decide)) (Or.inl (by decide)) (Or.inl (by decide)) (Or.inr (?_))
    intro j hj
    rw [r126]
    split
    · exact Or.inl rfl
    · exact rb_airRow h.rb j hj
  · obtain ⟨q1, q2, q3, q4, q5, q6, q7⟩ := h.c
    have a1 := g.i1 hR (l := [770, 784, 798, 809, 769, 797]) (by decide)
    have a2 := g.i2 hC (l := [716, 715]) (by decide)
    unfold RLc
    rw [hc, h787, g.c1 hC (by first | omega | (intro _ _; omega) | (dsimp only; omega) | (intro _ _; dsimp only; omega)), g.c3 hC (by first | omega | (intro _ _; omega) | (dsimp only; omega) | (intro _ _; dsimp only; omega)), g.c4 hC (by first | omega | (intro _ _; omega) | (dsimp only; omega) | (intro _ _; dsimp only; omega)), g.c5 hC (by first | omega | (intro _ _; omega) | (dsimp only; omega) | (intro _ _; dsimp only; omega))]
    simp (disch := decide) only [a1, a2]
    exact ⟨q1, trivial, q3, q4, q5, q6, q7⟩
  · have aA := g.rows hR (l := [127, 128, 129]) (by decide) (by decide)
    intro r hr
    simp (disch := decide) only [aA]
    rw [r121, r122, r123, r124, r125]
    by_cases z : r = ct w 202
    · subst z
      rw [if_pos rfl, if_pos rfl, if_pos rfl, if_pos rfl, if_pos rfl, i1, i2, i3, i4, i5, i6, hct, (h.v.1 _ (Nat.le_refl _) hq).1, (h.v.1 _ (Nat.le_refl _) hq).2]
      exact ⟨rfl, rfl, rfl, rfl, rfl, rfl, rfl, fun i hi => absurd hi (Nat.not_lt_zero _)⟩
    · have hr2 : r < ct w 202 := by omega
      have aI := g.iR hC (l := [512, 513, 514, 515, 516, 522]) (by decide) hr2
      have eL := g.L (ci_R hC hr2).2.2.1.2.1 (by decide) (show ¬ 1300 + r = 202 by omega)
      have e0 := g.cn (ci_R hC hr2).2.2.1.2.1 (by decide) (show ¬ 1300 + r = 202 by omega)
      unfold elN
      rw [if_neg z, if_neg z, if_neg z, if_neg z, if_neg z, eL, e0]
      simp (disch := decide) only [aI]
      exact h.r r hr2
  · intro r hr
    rw [r126]
    by_cases z : r = ct w 202
    · subst z
      rw [if_pos rfl, iR]
      exact Or.inl ⟨rfl, rfl⟩
    · have hr2 : r < ct w 202 := by omega
      have aI := g.iR hC (l := [519]) (by decide) hr2
      rw [if_neg z, g.R (k := 518) (ci_R hC hr2).1 (by decide) (by decide), g.c3 hC (by first | omega | (intro _ _; omega) | (dsimp only; omega) | (intro _ _; dsimp only; omega)), aI 519 (by decide)]
      exact h.a r hr2
  · unfold RLg
    rw [g.c1 hC (by first | omega | (intro _ _; omega) | (dsimp only; omega) | (intro _ _; dsimp only; omega)), hc]
    refine ⟨fun r hr => ?_, fun m hm => ?_⟩
    · by_cases z : r = ct w 202
      · subst z
        rw [hL]
        refine ⟨List.nodup_nil, fun m hm => ?_⟩
        rw [g.R (k := 650) (ci_W hC hm).1 (by decide) (by decide)]
        refine ⟨fun y => absurd y List.not_mem_nil, fun y => ?_⟩
        rcases (ci_W hC hm).2.2.2.2.2.2 with x | ⟨r', hr', x⟩
        · rw [x] at y; cases y
        · rw [x] at y
          have := Option.some.inj y
          omega
      · have hr2 : r < ct w 202 := by omega
        rw [g.L (ci_R hC hr2).2.2.1.2.1 (by decide) (show ¬ 1300 + r = 202 by omega)]
        refine ⟨(h.g.1 r hr2).1, fun m hm => ?_⟩
        rw [g.R (k := 650) (ci_W hC hm).1 (by decide) (by decide)]
        exact (h.g.1 r hr2).2 m hm
    · have aI := g.iW hC (l := [647, 648]) (by decide) hm
      rw [g.R (k := 650) (ci_W hC hm).1 (by decide) (by decide)]
      simp (disch := decide) only [aI]
      rcases h.g.2 m hm with ⟨r, hr, x⟩ | x
      · exact Or.inl ⟨r, by omega, x⟩
      · exact Or.inr x
  · have aA := g.rows hR (l := [110, 127, 128, 145]) (by decide) (by decide)
    unfold RLv
    rw [g.c1 hC (by first | omega | (intro _ _; omega) | (dsimp only; omega) | (intro _ _; dsimp only; omega)), g.c5 hC (by first | omega | (intro _ _; omega) | (dsimp only; omega) | (intro _ _; dsimp only; omega)), hc]
    simp (disch := decide) only [aA]
    exact ⟨fun r a => h.v.1 r (by omega), h.v.2⟩
theorem ru_crate {n : Nat} {w u : AW} {a b : Int32} (h : Rel n w) (hq : ct w 205 < 20) (g : AX [768, 809] [143, 144, 147, 148] (fun x => x = 205) w u) (hc : ct u 205 = ct w 205 + 1) (hI : CIv u) (hT : ∀ x, ¬ (x = 1700 + ct w 205 ∨ x = 1800 + ct w 205) → wT u x = wT w x) (hL : wL u (1800 + ct w 205) = []) (r143 : ∀ j, wA u 143 j = if j = ct w 205 then a else wA w 143 j) (r144 : ∀ j, wA u 144 j = if j = ct w 205 then b else wA w 144 j) (r147 : ∀ j, wA u 147 j = if j = ct w 205 then (-1) else wA w 147 j) (r148 : ∀ j, wA u 148 j = if j = ct w 205 then 0 else wA w 148 j) (i1 : wI u 192 (1700 + ct w 205) = a) (i2 : wI u 193 (1700 + ct w 205) = b) (i3 : wI u 195 (1700 + ct w 205) = -1) (i4 : wI u 196 (1700 + ct w 205) = 0) (h809 : wI u 809 100 = nI (ct w 205 + 1)) : Rel (n + 1) u := by
  have hC := h.ci
  have hR := h.ri
  have hct : ct u (1800 + ct w 205) = 0 := by unfold ct at *; rw [hL]; rfl
  refine ⟨hI, g.xri hR (by decide), g.xrk hR h.rb (Or.inl (by decide)) (Or.inl (by decide)) (Or.inl (by decide)) (Or.inl (by decide)) (Or.inl (by decide)) (Or.inl (by decide)) (Or.inr (⟨ct w 205 + 1, hq, h809⟩)) (Or.inl (by decide)) (Or.inl (by decide)) (Or.inl (by decide)) (Or.inl (by decide)) (Or.inl (by decide)) (Or.inl (by decide)) (Or.inl (by decide)) (Or.inl (by decide)), ?_, g.xw hC hR h.wk (by first | omega | (intro _ _; omega) | (dsimp only; omega) | (intro _ _; dsimp only; omega)) (by decide) (by decide), g.xl hC hR h.l (by first | omega | (intro _ _; omega) | (dsimp only; omega) | (intro _ _; dsimp only; omega)) (by first | omega | (intro _ _; omega) | (dsimp only; omega) | (intro _ _; dsimp only; omega)) (by decide) (by decide), g.xr hC hR h.r (by first | omega | (intro _ _; omega) | (dsimp only; omega) | (intro _ _; dsimp only; omega)) (by first | omega | (intro _ _; omega) | (dsimp only; omega) | (intro _ _; dsimp only; omega)) (by decide) (by decide), ?_, g.xu hC hR h.u (by decide) (by decide) (by decide), g.xs hC hR h.s (by first | omega | (intro _ _; omega) | (dsimp only; omega) | (intro _ _; dsimp only; omega)) (by intro q hq; simp only [List.mem_cons, List.not_mem_nil, or_false] at hq <;> omega) (by intro q hq; simp only [List.mem_cons, List.not_mem_nil, or_false] at hq <;> omega) (by decide), g.xa hC hR h.a (by first | omega | (intro _ _; omega) | (dsimp only; omega) | (intro _ _; dsimp only; omega)) (Nat.le_of_eq (g.c3 hC (by first | omega | (intro _ _; omega) | (dsimp only; omega) | (intro _ _; dsimp only; omega))).symm) (by decide) (by decide), g.xg hC hR h.g (by first | omega | (intro _ _; omega) | (dsimp only; omega) | (intro _ _; dsimp only; omega)) (by first | omega | (intro _ _; omega) | (dsimp only; omega) | (intro _ _; dsimp only; omega)) (by first | omega | (intro _ _; omega) | (dsimp only; omega) | (intro _ _; dsimp only; omega)) (by decide), ?_, g.xn hC hR h.n (by first | omega | (intro _ _; omega) | (dsimp only; omega) | (intro _ _; dsimp only; omega)) (by first | omega | (intro _ _; omega) | (dsimp only; omega) | (intro _ _; dsimp only; omega)) (by decide) (by decide), (g.xm hC hR h.m (by first | omega | (intro _ _; omega) | (dsimp only; omega) | (intro _ _; dsimp only; omega)) (by first | omega | (intro _ _; omega) | (dsimp only; omega) | (intro _ _; dsimp only; omega)) (by decide)).up, g.xt hC hR h.t (by decide) (by decide) (by decide), g.xb hC hR h.b (by decide) (by decide) (by decide), RLf.st h.f (fun x => x = 1700 + ct w 205 ∨ x = 1800 + ct w 205) (hT) (Nat.le_of_eq (g.c1 hC (by first | omega | (intro _ _; omega) | (dsimp only; omega) | (intro _ _; dsimp only; omega))).symm) (Nat.le_of_eq (g.c2 hC (by first | omega | (intro _ _; omega) | (dsimp only; omega) | (intro _ _; dsimp only; omega))).symm) (Nat.le_of_eq (g.c3 hC (by first | omega | (intro _ _; omega) | (dsimp only; omega) | (intro _ _; dsimp only; omega))).symm) (Nat.le_of_eq (g.c4 hC (by first | omega | (intro _ _; omega) | (dsimp only; omega) | (intro _ _; dsimp only; omega))).symm) (by omega) (Nat.le_of_eq (congrArg _ (g.I hR.1 (by decide) (by decide)).symm)) (by intro n a b; first | omega | (dsimp only; omega)) (by intro n a b; first | omega | (dsimp only; omega)) (by intro n a b; first | omega | (dsimp only; omega)) (by intro n a b; first | omega | (dsimp only; omega)) (by intro n a b; refine ⟨by first | omega | (dsimp only; omega), by first | omega | (dsimp only; omega), fun i hi => ?_⟩; first | omega | (dsimp only; omega)) (by first | omega | (dsimp only; omega)) (by intro n a; first | omega | (dsimp only; omega)), ?_, g.xz hC hR h.z (by first | omega | (intro _ _; omega) | (dsimp only; omega) | (intro _ _; dsimp only; omega)) (by decide), g.xo h.o⟩
  · obtain ⟨q1, q2, q3, q4, q5, q6, q7⟩ := h.c
    have a1 := g.i1 hR (l := [770, 784, 798, 787, 769, 797]) (by decide)
    have a2 := g.i2 hC (l := [716, 715]) (by decide)
    unfold RLc
    rw [hc, h809, g.c1 hC (by first | omega | (intro _ _; omega) | (dsimp only; omega) | (intro _ _; dsimp only; omega)), g.c3 hC (by first | omega | (intro _ _; omega) | (dsimp only; omega) | (intro _ _; dsimp only; omega)), g.c4 hC (by first | omega | (intro _ _; omega) | (dsimp only; omega) | (intro _ _; dsimp only; omega)), g.c2 hC (by first | omega | (intro _ _; omega) | (dsimp only; omega) | (intro _ _; dsimp only; omega))]
    simp (disch := decide) only [a1, a2]
    exact ⟨q1, q2, q3, q4, trivial, q6, q7⟩
  · have aA := g.rows hR (l := [145, 146]) (by decide) (by decide)
    intro r hr
    simp (disch := decide) only [aA]
    rw [r143, r144, r147, r148]
    by_cases z : r = ct w 205
    · subst z
      rw [if_pos rfl, if_pos rfl, if_pos rfl, if_pos rfl, i1, i2, i3, i4, hct, h.v.2.1 _ (Nat.le_refl _) hq]
      exact ⟨rfl, rfl, rfl, fun i hi => absurd hi (Nat.not_lt_zero _), rfl, rfl, fun _ => rfl⟩
    · have hr2 : r < ct w 205 := by omega
      have aI := g.iC hC (l := [192, 193, 195, 196]) (by decide) hr2
      have eL := g.L (ci_Cr hC hr2).2.2.1.2.1 (by decide) (show ¬ 1800 + r = 205 by omega)
      have e0 := g.cn (ci_Cr hC hr2).2.2.1.2.1 (by decide) (show ¬ 1800 + r = 205 by omega)
      unfold elN
      rw [if_neg z, if_neg z, if_neg z, if_neg z, eL, e0]
      simp (disch := decide) only [aI]
      exact h.k r hr2
  · unfold RLd
    rw [g.c1 hC (by first | omega | (intro _ _; omega) | (dsimp only; omega) | (intro _ _; dsimp only; omega))]
    intro c hcc
    by_cases z : c = ct w 205
    · subst z
      rw [hL]
      exact ⟨List.nodup_nil, fun m hm y => absurd y List.not_mem_nil⟩
    · have hr2 : c < ct w 205 := by omega
      rw [g.L (ci_Cr hC hr2).2.2.1.2.1 (by decide) (show ¬ 1800 + c = 205 by omega)]
      refine ⟨(h.d c hr2).1, fun m hm y => ?_⟩
      have aI := g.iW hC (l := [647, 648]) (by decide) hm
      simp (disch := decide) only [aI]
      exact (h.d c hr2).2 m hm y
  · have aA := g.rows hR (l := [110, 127, 128, 145]) (by decide) (by decide)
    unfold RLv
    rw [g.c1 hC (by first | omega | (intro _ _; omega) | (dsimp only; omega) | (intro _ _; dsimp only; omega)), g.c2 hC (by first | omega | (intro _ _; omega) | (dsimp only; omega) | (intro _ _; dsimp only; omega)), hc]
    simp (disch := decide) only [aA]
    exact ⟨h.v.1, fun r a => h.v.2.1 r (by omega), h.v.2.2⟩

theorem rl_room {n : Nat} {w : AW} {a b c d e : Int32} {y : Int64} (h : Rel n w) (hq : ct w 202 < 20) : Rel (n + 1) (sI (sA (sA (sA (sA (sA (sA (sI (sJ (sL (nwR w (ct w 202) a b c d e) 202 (wL w 202 ++ [1200 + ct w 202])) 222 0 y) 768 100 0) 121 (ct w 202) a) 122 (ct w 202) b) 123 (ct w 202) c) 124 (ct w 202) d) 125 (ct w 202) e) 126 (ct w 202) (-1)) 787 100 (nI (ct w 202 + 1))) := by
  obtain ⟨f1, f2⟩ := h.f.2.1 _ (Nat.le_refl _) hq
  have hC := h.ci
  refine ru_room (a := a) (b := b) (c := c) (d := d) (e := e) h hq ?_ ?_ ?_ (fun x hx => ?_) ?_ (fun j => ?_) (fun j => ?_) (fun j => ?_) (fun j => ?_) (fun j => ?_) (fun j => ?_) ?_ ?_ ?_ ?_ ?_ ?_ ?_ rfl
  · refine AX.oI ?_ (Or.inr (by decide))
    refine AX.oA ?_ (Or.inr (by decide))
    refine AX.oA ?_ (Or.inr (by decide))
    refine AX.oA ?_ (Or.inr (by decide))
    refine AX.oA ?_ (Or.inr (by decide))
    refine AX.oA ?_ (Or.inr (by decide))
    refine AX.oA ?_ (Or.inr (by decide))
    refine AX.oI ?_ (Or.inr (by decide))
    refine AX.oJ ?_
    refine AX.oL ?_ (Or.inr rfl)
    exact nwR_ax f1 f2
  · unfold ct
    simp only [wL_sI, wL_sA, wL_sJ, wL_sL, if_true, List.length_append]; rfl
  · rw [CIv_787, CIv_sA, CIv_sA, CIv_sA, CIv_sA, CIv_sA, CIv_sA, CIv_thr, CIv_out]
    have ag := nwR_ag (a := a) (b := b) (c := c) (d := d) (e := e) f1 f2
    have eL := ag.L (ci_rooms hC).1 (by decide)
    have ec := ag.ct (ci_rooms hC).1 (by decide)
    have q := CIv_addRoom (nwR_ci (a := a) (b := b) (c := c) (d := d) (e := e) hC f1 f2) (by rw [ec]; exact hq) (by rw [ec]; exact nwR_rm hC f1 f2)
    rw [eL, ec] at q; exact q
  · simp only [wT_sI, wT_sA, wT_sJ, wT_sL]
    rw [nwR_T, if_neg (by omega), if_neg (by omega)]
  · simp only [wL_sI, wL_sA, wL_sJ, wL_sL]
    rw [if_neg (by omega)]
    exact nwR_ln
  · simp only [wA_sI, wA_sA, wA_sJ, wA_sL, Nat.reduceEqDiff, reduceIte, if_true, if_false]
    rfl
  · simp only [wA_sI, wA_sA, wA_sJ, wA_sL, Nat.reduceEqDiff, reduceIte, if_true, if_false]
    rfl
  · simp only [wA_sI, wA_sA, wA_sJ, wA_sL, Nat.reduceEqDiff, reduceIte, if_true, if_false]
    rfl
  · simp only [wA_sI, wA_sA, wA_sJ, wA_sL, Nat.reduceEqDiff, reduceIte, if_true, if_false]
    rfl
  · simp only [wA_sI, wA_sA, wA_sJ, wA_sL, Nat.reduceEqDiff, reduceIte, if_true, if_false]
    rfl
  · simp only [wA_sI, wA_sA, wA_sJ, wA_sL, Nat.reduceEqDiff, reduceIte, if_true, if_false]
    rfl
  · unfold nwR lsW
    simp only [wI_sI, wI_sA, wI_sJ, wI_sL, wI_sR, wI_sT, wI_nO, Nat.reduceEqDiff, reduceIte, if_true, if_false]
    try rfl
  · unfold nwR lsW
    simp only [wI_sI, wI_sA, wI_sJ, wI_sL, wI_sR, wI_sT, wI_nO, Nat.reduceEqDiff, reduceIte, if_true, if_false]
    try rfl
  · unfold nwR lsW
    simp only [wI_sI, wI_sA, wI_sJ, wI_sL, wI_sR, wI_sT, wI_nO, Nat.reduceEqDiff, reduceIte, if_true, if_false]
    try rfl
  · unfold nwR lsW
    simp only [wI_sI, wI_sA, wI_sJ, wI_sL, wI_sR, wI_sT, wI_nO, Nat.reduceEqDiff, reduceIte, if_true, if_false]
    try rfl
  · unfold nwR lsW
    simp only [wI_sI, wI_sA, wI_sJ, wI_sL, wI_sR, wI_sT, wI_nO, Nat.reduceEqDiff, reduceIte, if_true, if_false]
    try rfl
  · unfold nwR lsW
    simp only [wI_sI, wI_sA, wI_sJ, wI_sL, wI_sR, wI_sT, wI_nO, Nat.reduceEqDiff, reduceIte, if_true, if_false]
    first | rfl | rw [if_neg (by omega)]
  · simp only [wR_sI, wR_sA, wR_sJ, wR_sL]
    exact nwR_R (by decide)

theorem rl_crate {n : Nat} {w : AW} {a b : Int32} {y : Int64} (h : Rel n w) (hq : ct w 205 < 20) : Rel (n + 1) (sI (sA (sA (sA (sA (sI (sJ (sL (nwC w (ct w 205) a b) 205 (wL w 205 ++ [1700 + ct w 205])) 222 0 y) 768 100 0) 143 (ct w 205) a) 144 (ct w 205) b) 147 (ct w 205) (-1)) 148 (ct w 205) 0) 809 100 (nI (ct w 205 + 1))) := by
  obtain ⟨f1, f2⟩ := h.f.2.2.2.1 _ (Nat.le_refl _) hq
  have hC := h.ci
  refine ru_crate (a := a) (b := b) h hq ?_ ?_ ?_ (fun x hx => ?_) ?_ (fun j => ?_) (fun j => ?_) (fun j => ?_) (fun j => ?_) ?_ ?_ ?_ ?_ rfl
  · refine AX.oI ?_ (Or.inr (by decide))
    refine AX.oA ?_ (Or.inr (by decide))
    refine AX.oA ?_ (Or.inr (by decide))
    refine AX.oA ?_ (Or.inr (by decide))
    refine AX.oA ?_ (Or.inr (by decide))
    refine AX.oI ?_ (Or.inr (by decide))
    refine AX.oJ ?_
    refine AX.oL ?_ (Or.inr rfl)
    exact nwC_ax f1 f2
  · unfold ct
    simp only [wL_sI, wL_sA, wL_sJ, wL_sL, if_true, List.length_append]; rfl
  · rw [CIv_809, CIv_sA, CIv_sA, CIv_sA, CIv_sA, CIv_thr, CIv_out]
    have ag := nwC_ag (a := a) (b := b) f1 f2
    have eL := ag.L (ci_crates hC).1 (by decide)
    have ec := ag.ct (ci_crates hC).1 (by decide)
    have q := CIv_addCrate (nwC_ci (a := a) (b := b) hC f1 f2) (by rw [ec]; exact hq) (by rw [ec]; exact nwC_cr hC f1 f2)
    rw [eL, ec] at q; exact q
  · simp only [wT_sI, wT_sA, wT_sJ, wT_sL]
    rw [nwC_T, if_neg (by omega), if_neg (by omega)]
  · simp only [wL_sI, wL_sA, wL_sJ, wL_sL]
    rw [if_neg (by omega)]
    exact nwC_ln
  · simp only [wA_sI, wA_sA, wA_sJ, wA_sL, Nat.reduceEqDiff, reduceIte, if_true, if_false]
    rfl
  · simp only [wA_sI, wA_sA, wA_sJ, wA_sL, Nat.reduceEqDiff, reduceIte, if_true, if_false]
    rfl
  · simp only [wA_sI, wA_sA, wA_sJ, wA_sL, Nat.reduceEqDiff, reduceIte, if_true, if_false]
    rfl
  · simp only [wA_sI, wA_sA, wA_sJ, wA_sL, Nat.reduceEqDiff, reduceIte, if_true, if_false]
    rfl
  · unfold nwC lsW
    simp only [wI_sI, wI_sA, wI_sJ, wI_sL, wI_sR, wI_sT, wI_nO, Nat.reduceEqDiff, reduceIte, if_true, if_false]
    try rfl
  · unfold nwC lsW
    simp only [wI_sI, wI_sA, wI_sJ, wI_sL, wI_sR, wI_sT, wI_nO, Nat.reduceEqDiff, reduceIte, if_true, if_false]
    try rfl
  · unfold nwC lsW
    simp only [wI_sI, wI_sA, wI_sJ, wI_sL, wI_sR, wI_sT, wI_nO, Nat.reduceEqDiff, reduceIte, if_true, if_false]
    try rfl
  · unfold nwC lsW
    simp only [wI_sI, wI_sA, wI_sJ, wI_sL, wI_sR, wI_sT, wI_nO, Nat.reduceEqDiff, reduceIte, if_true, if_false]
    first | rfl | rw [if_neg (by omega)]

theorem pr_room {n : Nat} {w : AW} (h : Rel n w) (hn : n < 512) (p0 p1 p2 p3 p4 : Int32) : sp_X11_room [.ref 200, .int p0, .int p1, .int p2, .int p3, .int p4] w (PRt ["java/lang/IllegalArgumentException"] sp_X12_room [.int p0, .int p1, .int p2, .int p3, .int p4] n) := by
  rw [sq_X11_room]
  have e0 : wI w 787 100 = nI (ct w 202) := h.c.2.1
  refine ⟨⟨h.ci, fun z => h.f.2.1 _ (Nat.le_refl _) z⟩, fun hc => ?_, fun hc => ?_, fun hc => ?_⟩
  · refine ⟨(by first | exact T222 | exact hR.o | exact h.o), 1, 0, OC.ex (by decide) (by decide) rfl, ?_⟩
    rw [oJ_1, sq_X12_room]
    exact ⟨⟨h.ri, h.rb⟩, fun _ => ⟨0, rfl, rfl, fun z => absurd z (by decide), h.up.thr 1⟩, fun a => absurd a.1 hc, fun a => absurd a.1 hc⟩
  · have e4 : ct w 202 = 20 := by have := (ci_rooms h.ci).2.2; omega
    refine ⟨(by first | exact T222 | exact hR.o | exact h.o), 0, _, OC.ok, ?_⟩
    rw [oJ_0, sq_X12_room]
    simp only [wI_sJ]
    rw [e0, e4]
    exact ⟨⟨h.ri, h.rb⟩, fun a => absurd hc.1 a, fun _ => ⟨_, rfl, rfl, fun _ => rfl, (h.up.out _).thr 0⟩, fun a => absurd rfl a.2⟩
  · obtain ⟨hA, hc⟩ := hc
    obtain ⟨f1, f2⟩ := h.f.2.1 _ (Nat.le_refl _) hc
    have g : AX [] [] (fun x => x = 202) w (sJ (sL (nwR w (ct w 202) p0 p1 p2 p3 p4) 202 (wL w 202 ++ [1200 + ct w 202])) 222 0 (nI (ct w 202)).toInt64) := by
      refine AX.oJ ?_
      refine AX.oL ?_ (Or.inr rfl)
      exact nwR_ax f1 f2
    have e1 : wI (sJ (sL (nwR w (ct w 202) p0 p1 p2 p3 p4) 202 (wL w 202 ++ [1200 + ct w 202])) 222 0 (nI (ct w 202)).toInt64) 787 100 = nI (ct w 202) := (g.I h.ri.1 (by decide) (by decide)).trans e0
    have T222 := g.xo h.o
    refine ⟨(by first | exact T222 | exact hR.o | exact h.o), 0, _, OC.ok, ?_⟩
    rw [oJ_0, sq_X12_room, e1]
    refine ⟨⟨g.xri h.ri (by decide), g.xrb h.ri h.rb (by decide) (by decide)⟩, fun a => absurd hA a, fun a => absurd a.2 ?_, fun _ => ⟨_, rfl, rfl, fun _ => nI_sub1 _, ?_⟩⟩
    · intro z
      have := (nI_eq (a := ct w 202) (b := 20) (by omega) (by decide)).mp z
      omega
    · rw [nI_succ1, nI_clamp (by omega)]; exact rl_room h hc

theorem pr_crate {n : Nat} {w : AW} (h : Rel n w) (hn : n < 512) (p0 p1 : Int32) : sp_X11_crate [.ref 200, .int p0, .int p1] w (PRt ["java/lang/IllegalArgumentException"] sp_X12_crate [.int p0, .int p1] n) := by
  rw [sq_X11_crate]
  have e0 : wI w 809 100 = nI (ct w 205) := h.c.2.2.2.2.1
  refine ⟨⟨h.ci, fun z => h.f.2.2.2.1 _ (Nat.le_refl _) z⟩, fun hc => ?_, fun hc => ?_, fun hc => ?_⟩
  · refine ⟨(by first | exact T222 | exact hR.o | exact h.o), 1, 0, OC.ex (by decide) (by decide) rfl, ?_⟩
    rw [oJ_1, sq_X12_crate]
    exact ⟨⟨h.ri, h.rb⟩, fun _ => ⟨0, rfl, rfl, fun z => absurd z (by decide), h.up.thr 1⟩, fun a => absurd a.1 hc, fun a => absurd a.1 hc⟩
  · have e4 : ct w 205 = 20 := by have := (ci_crates h.ci).2.2; omega
    refine ⟨(by first | exact T222 | exact hR.o | exact h.o), 0, _, OC.ok, ?_⟩
    rw [oJ_0, sq_X12_crate]
    simp only [wI_sJ]
    rw [e0, e4]
    exact ⟨⟨h.ri, h.rb⟩, fun a => absurd hc.1 a, fun _ => ⟨_, rfl, rfl, fun _ => rfl, (h.up.out _).thr 0⟩, fun a => absurd rfl a.2⟩
  · obtain ⟨hA, hc⟩ := hc
    obtain ⟨f1, f2⟩ := h.f.2.2.2.1 _ (Nat.le_refl _) hc
    have g : AX [] [] (fun x => x = 205) w (sJ (sL (nwC w (ct w 205) p0 p1) 205 (wL w 205 ++ [1700 + ct w 205])) 222 0 (nI (ct w 205)).toInt64) := by
      refine AX.oJ ?_
      refine AX.oL ?_ (Or.inr rfl)
      exact nwC_ax f1 f2
    have e1 : wI (sJ (sL (nwC w (ct w 205) p0 p1) 205 (wL w 205 ++ [1700 + ct w 205])) 222 0 (nI (ct w 205)).toInt64) 809 100 = nI (ct w 205) := (g.I h.ri.1 (by decide) (by decide)).trans e0
    have T222 := g.xo h.o
    refine ⟨(by first | exact T222 | exact hR.o | exact h.o), 0, _, OC.ok, ?_⟩
    rw [oJ_0, sq_X12_crate, e1]
    refine ⟨⟨g.xri h.ri (by decide), g.xrb h.ri h.rb (by decide) (by decide)⟩, fun a => absurd hA a, fun a => absurd a.2 ?_, fun _ => ⟨_, rfl, rfl, fun _ => nI_sub1 _, ?_⟩⟩
    · intro z
      have := (nI_eq (a := ct w 205) (b := 20) (by omega) (by decide)).mp z
      omega
    · rw [nI_succ1, nI_clamp (by omega)]; exact rl_crate h hc

