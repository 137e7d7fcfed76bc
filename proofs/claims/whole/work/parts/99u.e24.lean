theorem refL_cg {f h p q f' h' p' q' : Nat → Int32} (v : Int32) : ∀ N, (∀ j, j < N → f' j = f j ∧ h' j = h j ∧ p' j = p j ∧ q' j = q j) → refL f' h' p' q' v N = refL f h p q v N
  | 0, _ => rfl
  | N + 1, H => by
    obtain ⟨a, b, c, d⟩ := H N (Nat.lt_succ_self _)
    rw [refL, refL, a, b, c, d, refL_cg v N (fun j hj => H j (by omega))]
theorem refL_nil {f h p q : Nat → Int32} (v : Int32) : ∀ N, (∀ j, j < N → ¬ f j = v) → refL f h p q v N = []
  | 0, _ => rfl
  | N + 1, H => by
    rw [refL, if_neg (H N (Nat.lt_succ_self _))]
    exact refL_nil v N (fun j hj => H j (by omega))
/-- one line more -/
theorem rln_add {w u : AW} {n L : Nat} {t p x : Int32} (h : RLn w) (hcu : ∀ m, m < ct u 201 → m = n ∨ m < ct w 201) (hcw : ct w 201 ≤ ct u 201) (hn : n < ct u 201) (h40 : ct u 201 ≤ 40) (e0 : (wI w 771 100).toNatClampNeg = L) (e1 : (wI u 771 100).toNatClampNeg = L + 1) (hold : ∀ m, m < ct w 201 → m ≠ n → (wL u (1100 + m)).map (lnV u) = (wL w (1100 + m)).map (lnV w)) (hnew : (wL u (1100 + n)).map (lnV u) = refL (wA w 113) (wA w 114) (wA w 115) (wA w 116) (nI n) L ++ [(t, p, x)]) (r3 : ∀ j, wA u 113 j = if j = L then nI n else wA w 113 j) (r4 : ∀ j, wA u 114 j = if j = L then t else wA w 114 j) (r5 : ∀ j, wA u 115 j = if j = L then p else wA w 115 j) (r6 : ∀ j, wA u 116 j = if j = L then x else wA w 116 j) : RLn u := by
  obtain ⟨h1, h2⟩ := h
  rw [e0] at h1 h2
  have cg : ∀ v, refL (wA u 113) (wA u 114) (wA u 115) (wA u 116) v L = refL (wA w 113) (wA w 114) (wA w 115) (wA w 116) v L := fun v => refL_cg v L (fun j hj => by
    rw [r3, r4, r5, r6, if_neg (by omega), if_neg (by omega), if_neg (by omega), if_neg (by omega)]
    exact ⟨rfl, rfl, rfl, rfl⟩)
  unfold RLn
  rw [e1]
  refine ⟨fun m hm => ?_, fun j hj => ?_⟩
  · rw [refL, cg, r3, r4, r5, r6, if_pos rfl, if_pos rfl, if_pos rfl, if_pos rfl]
    by_cases z : m = n
    · subst z
      rw [if_pos rfl, hnew]
    · have hm2 : m < ct w 201 := (hcu m hm).resolve_left z
      rw [if_neg (fun y => z ((nI_eq (by omega) (by omega)).mp y).symm), hold m hm2 z]
      exact h1 m hm2
  · rw [r3]
    by_cases z : j = L
    · rw [if_pos z]; exact ⟨n, hn, rfl⟩
    · rw [if_neg z]
      obtain ⟨m, hm, e⟩ := h2 j (by omega)
      exact ⟨m, by omega, e⟩
theorem ru_work {n L : Nat} {w u : AW} {a b c d e : Int32} (h : Rel n w) (hn : n < 512) (hq : ct w 201 < 40) (hk : L ≤ 4 * n) (eL : wI w 771 100 = nI L) (g : AX [768, 770, 771] [105, 106, 107, 108, 109, 110, 111, 112, 113, 114, 115, 116] (fun x => x = 201) w u) (hc : ct u 201 = ct w 201 + 1) (hI : CIv u) (hT : ∀ x, ¬ (x = 1000 + ct w 201 ∨ x = 1100 + ct w 201 ∨ x = 3000 + L) → wT u x = wT w x) (hL : wL u (1100 + ct w 201) = [3000 + L]) (hz : ∃ z, z ≤ 500 ∧ c = nI z) (r105 : ∀ j, wA u 105 j = if j = ct w 201 then a else wA w 105 j) (r106 : ∀ j, wA u 106 j = if j = ct w 201 then b else wA w 106 j) (r107 : ∀ j, wA u 107 j = if j = ct w 201 then c else wA w 107 j) (r108 : ∀ j, wA u 108 j = if j = ct w 201 then d else wA w 108 j) (r109 : ∀ j, wA u 109 j = if j = ct w 201 then e else wA w 109 j) (r112 : ∀ j, wA u 112 j = if j = ct w 201 then 0 else wA w 112 j) (r110 : ∀ j, wA u 110 j = if j = ct w 201 then 0 else wA w 110 j) (r111 : ∀ j, wA u 111 j = if j = ct w 201 then 0 else wA w 111 j) (r113 : ∀ j, wA u 113 j = if j = L then (nI (ct w 201)) else wA w 113 j) (r114 : ∀ j, wA u 114 j = if j = L then (wI w 716 200) else wA w 114 j) (r115 : ∀ j, wA u 115 j = if j = L then 0 else wA w 115 j) (r116 : ∀ j, wA u 116 j = if j = L then 0 else wA w 116 j) (i641 : wI u 641 (1000 + ct w 201) = a) (i642 : wI u 642 (1000 + ct w 201) = b) (i643 : wI u 643 (1000 + ct w 201) = c) (i644 : wI u 644 (1000 + ct w 201) = d) (i645 : wI u 645 (1000 + ct w 201) = e) (i647 : wI u 647 (1000 + ct w 201) = 0) (i648 : wI u 648 (1000 + ct w 201) = 0) (i649 : wI u 649 (1000 + ct w 201) = 0) (iR : wR u 650 (1000 + ct w 201) = none) (iL : lnV u (3000 + L) = (wI w 716 200, 0, 0)) (h770 : wI u 770 100 = nI (ct w 201 + 1)) (h771 : wI u 771 100 = nI (L + 1)) : Rel (n + 1) u := by
  have hC := h.ci
  have hR := h.ri
  have eL1 : (wI w 771 100).toNatClampNeg = L := by rw [eL, nI_clamp (by omega)]
  have eL2 : (wI u 771 100).toNatClampNeg = L + 1 := by rw [h771, nI_clamp (by omega)]
  refine ⟨hI, g.xri hR (by decide), g.xrk hR h.rb (Or.inr (⟨ct w 201 + 1, hq, h770⟩)) (Or.inr (⟨L + 1, by omega, h771⟩)) (Or.inl (by decide)) (Or.inl (by decide)) (Or.inl (by decide)) (Or.inl (by decide)) (Or.inl (by decide)) (Or.inl (by decide)) (Or.inl (by decide)) (Or.inl (by decide)) (Or.inl (by decide)) (Or.inl (by decide)) (Or.inl (by decide)) (Or.inl (by decide)) (Or.inl (by decide)), ?_, ?_, g.xl hC hR h.l (by first | omega | (intro _ _; omega) | (dsimp only; omega) | (intro _ _; dsimp only; omega)) (by first | omega | (intro _ _; omega) | (dsimp only; omega) | (intro _ _; dsimp only; omega)) (by decide) (by decide), g.xr hC hR h.r (by first | omega | (intro _ _; omega) | (dsimp only; omega) | (intro _ _; dsimp only; omega)) (by first | omega | (intro _ _; omega) | (dsimp only; omega) | (intro _ _; dsimp only; omega)) (by decide) (by decide), g.xk hC hR h.k (by first | omega | (intro _ _; omega) | (dsimp only; omega) | (intro _ _; dsimp only; omega)) (by first | omega | (intro _ _; omega) | (dsimp only; omega) | (intro _ _; dsimp only; omega)) (by decide) (by decide), g.xu hC hR h.u (by decide) (by decide) (by decide), g.xs hC hR h.s (by first | omega | (intro _ _; omega) | (dsimp only; omega) | (intro _ _; dsimp only; omega)) (by intro q hq; simp only [List.mem_cons, List.not_mem_nil, or_false] at hq <;> omega) (by intro q hq; simp only [List.mem_cons, List.not_mem_nil, or_false] at hq <;> omega) (by decide), g.xa hC hR h.a (by first | omega | (intro _ _; omega) | (dsimp only; omega) | (intro _ _; dsimp only; omega)) (Nat.le_of_eq (g.c3 hC (by first | omega | (intro _ _; omega) | (dsimp only; omega) | (intro _ _; dsimp only; omega))).symm) (by decide) (by decide), ?_, ?_, ?_, ?_, g.xt hC hR h.t (by decide) (by decide) (by decide), g.xb hC hR h.b (by decide) (by decide) (by decide), RLf.st h.f (fun x => x = 1000 + ct w 201 ∨ x = 1100 + ct w 201 ∨ x = 3000 + L) (hT) (by omega) (Nat.le_of_eq (g.c2 hC (by first | omega | (intro _ _; omega) | (dsimp only; omega) | (intro _ _; dsimp only; omega))).symm) (Nat.le_of_eq (g.c3 hC (by first | omega | (intro _ _; omega) | (dsimp only; omega) | (intro _ _; dsimp only; omega))).symm) (Nat.le_of_eq (g.c4 hC (by first | omega | (intro _ _; omega) | (dsimp only; omega) | (intro _ _; dsimp only; omega))).symm) (Nat.le_of_eq (g.c5 hC (by first | omega | (intro _ _; omega) | (dsimp only; omega) | (intro _ _; dsimp only; omega))).symm) (by omega) (by intro n a b; first | omega | (dsimp only; omega)) (by intro n a b; first | omega | (dsimp only; omega)) (by intro n a b; first | omega | (dsimp only; omega)) (by intro n a b; first | omega | (dsimp only; omega)) (by intro n a b; refine ⟨by first | omega | (dsimp only; omega), by first | omega | (dsimp only; omega), fun i hi => ?_⟩; first | omega | (dsimp only; omega)) (by first | omega | (dsimp only; omega)) (by intro n a; first | omega | (dsimp only; omega)), ?_, ?_, g.xo h.o⟩
  · obtain ⟨q1, q2, q3, q4, q5, q6, q7⟩ := h.c
    have a1 := g.i1 hR (l := [787, 784, 798, 809, 769, 797]) (by decide)
    have a2 := g.i2 hC (l := [716, 715]) (by decide)
    unfold RLc
    rw [hc, h770, g.c2 hC (by first | omega | (intro _ _; omega) | (dsimp only; omega) | (intro _ _; dsimp only; omega)), g.c3 hC (by first | omega | (intro _ _; omega) | (dsimp only; omega) | (intro _ _; dsimp only; omega)), g.c4 hC (by first | omega | (intro _ _; omega) | (dsimp only; omega) | (intro _ _; dsimp only; omega)), g.c5 hC (by first | omega | (intro _ _; omega) | (dsimp only; omega) | (intro _ _; dsimp only; omega))]
    simp (disch := decide) only [a1, a2]
    exact ⟨trivial, q2, q3, q4, q5, q6, q7⟩
  · intro r hr
    rw [r105, r106, r107, r108, r109, r110, r111, r112]
    by_cases z : r = ct w 201
    · subst z
      rw [if_pos rfl, if_pos rfl, if_pos rfl, if_pos rfl, if_pos rfl, if_pos rfl, if_pos rfl, if_pos rfl, i641, i642, i643, i644, i645, i647, i648, i649]
      exact ⟨rfl, rfl, rfl, rfl, rfl, rfl, rfl, rfl⟩
    · have hr2 : r < ct w 201 := by omega
      have aI := g.iW hC (l := [641, 642, 643, 644, 645, 647, 648, 649]) (by decide) hr2
      rw [if_neg z, if_neg z, if_neg z, if_neg z, if_neg z, if_neg z, if_neg z, if_neg z]
      simp (disch := decide) only [aI]
      exact h.wk r hr2
  · unfold RLg
    rw [g.c2 hC (by first | omega | (intro _ _; omega) | (dsimp only; omega) | (intro _ _; dsimp only; omega)), hc]
    refine ⟨fun r hr => ?_, fun m hm => ?_⟩
    · rw [g.L (ci_R hC hr).2.2.1.2.1 (by decide) (show ¬ 1300 + r = 201 by omega)]
      refine ⟨(h.g.1 r hr).1, fun m hm => ?_⟩
      by_cases z : m = ct w 201
      · subst z
        rw [iR]
        refine ⟨fun y => ?_, fun y => by cases y⟩
        obtain ⟨j, hj, e2⟩ := (ci_R hC hr).2.2.2.1 _ y
        omega
      · have hm2 : m < ct w 201 := by omega
        rw [g.R (k := 650) (ci_W hC hm2).1 (by decide) (by decide)]
        exact (h.g.1 r hr).2 m hm2
    · by_cases z : m = ct w 201
      · subst z
        rw [iR, i647]
        exact Or.inr ⟨rfl, by decide⟩
      · have hm2 : m < ct w 201 := by omega
        have aI := g.iW hC (l := [647, 648]) (by decide) hm2
        rw [g.R (k := 650) (ci_W hC hm2).1 (by decide) (by decide)]
        simp (disch := decide) only [aI]
        exact h.g.2 m hm2
  · unfold RLd
    rw [g.c5 hC (by first | omega | (intro _ _; omega) | (dsimp only; omega) | (intro _ _; dsimp only; omega)), hc]
    intro c hcc
    rw [g.L (ci_Cr hC hcc).2.2.1.2.1 (by decide) (show ¬ 1800 + c = 201 by omega)]
    refine ⟨(h.d c hcc).1, fun m hm y => ?_⟩
    by_cases z : m = ct w 201
    · subst z
      obtain ⟨j, hj, e2⟩ := (ci_Cr hC hcc).2.2.2.1 _ y
      omega
    · have hm2 : m < ct w 201 := by omega
      have aI := g.iW hC (l := [647, 648]) (by decide) hm2
      simp (disch := decide) only [aI]
      exact (h.d c hcc).2 m hm2 y
  · have b40 := hI.bd.1
    refine rln_add h.n (fun m hm => by omega) (by omega) (by omega) b40 eL1 eL2 (fun m hm z => ?_) ?_ r113 r114 r115 r116
    · rw [g.L (ci_W hC hm).2.2.1.2.1 (by decide) (show ¬ 1100 + m = 201 by omega)]
      refine List.map_congr_left fun q hq => ?_
      have hT := (ci_W hC hm).2.2.2.1 q hq
      unfold lnV
      rw [g.I (k := 320) hT (by decide) (by decide), g.I (k := 321) hT (by decide) (by decide), g.I (k := 322) hT (by decide) (by decide)]
    · rw [hL, refL_nil]
      · show [lnV u (3000 + L)] = _
        rw [iL]; rfl
      · intro j hj
        have q := h.n.2
        rw [eL1] at q
        obtain ⟨m, hm, e⟩ := q j hj
        rw [e]
        exact fun y => by have := (nI_eq (by omega) (by omega)).mp y; omega
  · obtain ⟨-, q2, q3⟩ := h.m
    have a2 := g.i2 hC (l := [716]) (by decide)
    have a3 := g.I (k := 67) (ci_BK hC).1 (by decide) (by decide)
    unfold RLm
    rw [hc, a3, a2 716 (by decide)]
    refine ⟨⟨L + 1, by omega, h771⟩, fun m hm => ?_, q3⟩
    by_cases z : m = ct w 201
    · subst z
      unfold ct at *
      rw [hL]; exact Nat.succ_le_succ (Nat.zero_le _)
    · have hm2 : m < ct w 201 := by omega
      rw [g.cn (ci_W hC hm2).2.2.1.2.1 (by decide) (show ¬ 1100 + m = 201 by omega)]
      exact Nat.le_succ_of_le (q2 m hm2)
  · have aA := g.rows hR (l := [127, 128, 145]) (by decide) (by decide)
    unfold RLv
    rw [g.c2 hC (by first | omega | (intro _ _; omega) | (dsimp only; omega) | (intro _ _; dsimp only; omega)), g.c5 hC (by first | omega | (intro _ _; omega) | (dsimp only; omega) | (intro _ _; dsimp only; omega)), hc]
    simp (disch := decide) only [aA]
    refine ⟨h.v.1, h.v.2.1, fun m hm hm4 => ?_⟩
    rw [r110, if_neg (by omega)]
    exact h.v.2.2 m (by omega) hm4
  · intro m hm
    by_cases z : m = ct w 201
    · subst z
      rw [i643]; exact hz
    · have hm2 : m < ct w 201 := by omega
      rw [g.iW hC (l := [643]) (by decide) hm2 643 (by decide)]
      exact h.z m hm2

theorem rl_work {n L : Nat} {w : AW} {a b c d e : Int32} {y : Int64} (h : Rel n w) (hn : n < 512) (hq : ct w 201 < 40) (ha : vp_in a 10) (hz : ∃ z, z ≤ 500 ∧ c = nI z) (hk : L ≤ 4 * n) (eL : wI w 771 100 = nI L) : Rel (n + 1) (sI (sI (sA (sA (sA (sA (sA (sA (sA (sA (sA (sA (sA (sA (sI (sJ (mvW (sL (nwW w (ct w 201) a b c d e) 201 (wL w 201 ++ [1000 + ct w 201])) (ct w 201) 0 0 L) 222 0 y) 768 100 0) 105 (ct w 201) a) 106 (ct w 201) b) 107 (ct w 201) c) 108 (ct w 201) d) 109 (ct w 201) e) 112 (ct w 201) 0) 110 (ct w 201) 0) 111 (ct w 201) 0) 113 L (nI (ct w 201))) 114 L (wI w 716 200)) 115 L 0) 116 L 0) 771 100 (nI (L + 1))) 770 100 (nI (ct w 201 + 1))) := by
  have f3 : wT w (3000 + L) = 0 := h.f.2.2.2.2.2.2 L (by rw [eL, nI_clamp (by omega)]; exact Nat.le_refl _)
  obtain ⟨f1, f2⟩ := h.f.1 _ (Nat.le_refl _) hq
  have hC := h.ci
  have h716 : wI (sL (nwW w (ct w 201) a b c d e) 201 (wL w 201 ++ [1000 + ct w 201])) 716 200 = wI w 716 200 := (nwW_ag (a := a) (b := b) (c := c) (d := d) (e := e) f1 f2).I hC.2.1.1 (by decide) 716
  have hLn : wL (sL (nwW w (ct w 201) a b c d e) 201 (wL w 201 ++ [1000 + ct w 201])) (1100 + ct w 201) = [] := by
    rw [wL_sL, if_neg (by omega)]; exact nwW_ln
  refine ru_work (a := a) (b := b) (c := c) (d := d) (e := e) h hn hq hk eL ?_ ?_ ?_ (fun x hx => ?_) ?_ hz (fun j => ?_) (fun j => ?_) (fun j => ?_) (fun j => ?_) (fun j => ?_) (fun j => ?_) (fun j => ?_) (fun j => ?_) (fun j => ?_) (fun j => ?_) (fun j => ?_) (fun j => ?_) ?_ ?_ ?_ ?_ ?_ ?_ ?_ ?_ ?_ ?_ ?_ rfl
  · unfold mvW
    refine AX.oI ?_ (Or.inr (by decide))
    refine AX.oI ?_ (Or.inr (by decide))
    refine AX.oA ?_ (Or.inr (by decide))
    refine AX.oA ?_ (Or.inr (by decide))
    refine AX.oA ?_ (Or.inr (by decide))
    refine AX.oA ?_ (Or.inr (by decide))
    refine AX.oA ?_ (Or.inr (by decide))
    refine AX.oA ?_ (Or.inr (by decide))
    refine AX.oA ?_ (Or.inr (by decide))
    refine AX.oA ?_ (Or.inr (by decide))
    refine AX.oA ?_ (Or.inr (by decide))
    refine AX.oA ?_ (Or.inr (by decide))
    refine AX.oA ?_ (Or.inr (by decide))
    refine AX.oA ?_ (Or.inr (by decide))
    refine AX.oI ?_ (Or.inr (by decide))
    refine AX.oJ ?_
    refine AX.oL ?_ (Or.inl f2)
    refine AX.oI ?_ (Or.inl f3)
    refine AX.oI ?_ (Or.inl f3)
    refine AX.oI ?_ (Or.inl f3)
    refine AX.mO ?_ f3
    refine AX.oI ?_ (Or.inl f1)
    refine AX.oI ?_ (Or.inl f1)
    refine AX.oL ?_ (Or.inr rfl)
    exact nwW_ax f1 f2
  · unfold mvW ct
    simp only [wL_sI, wL_sA, wL_sJ, wL_sL, wL_nO]
    rw [if_neg (by omega), if_neg (by omega), if_true, List.length_append]; rfl
  · rw [CIv_770, CIv_771, CIv_sA, CIv_sA, CIv_sA, CIv_sA, CIv_sA, CIv_sA, CIv_sA, CIv_sA, CIv_sA, CIv_sA, CIv_sA, CIv_sA, CIv_thr, CIv_out]
    have ag := nwW_ag (a := a) (b := b) (c := c) (d := d) (e := e) f1 f2
    have eL := ag.L (ci_works hC).1 (by decide)
    have ec := ag.ct (ci_works hC).1 (by decide)
    have q := CIv_addWork (nwW_ci (a := a) (b := b) (c := c) (d := d) (e := e) hC f1 f2) (by rw [ec]; exact hq) (by rw [ec]; exact nwW_wk hC f1 f2 ha)
    rw [eL, ec] at q
    refine mvW_ci q ?_ ?_ ?_
    · unfold ct
      rw [wL_sL, if_pos rfl, List.length_append]; exact Nat.lt_succ_self _
    · unfold ct at *; rw [hLn]; decide
    · rw [wT_sL, nwW_T, if_neg (by omega), if_neg (by omega)]; exact f3
  · unfold mvW
    simp only [wT_sI, wT_sA, wT_sJ, wT_sL, wT_nO]
    rw [if_neg (by omega), nwW_T, if_neg (by omega), if_neg (by omega)]
  · unfold mvW
    simp only [wL_sI, wL_sA, wL_sJ]
    rw [wL_sL, if_pos rfl, hLn]; rfl
  · unfold mvW
    simp only [wA_sI, wA_sA, wA_sJ, wA_sL, wA_nO, Nat.reduceEqDiff, reduceIte, if_true, if_false]
    rfl
  · unfold mvW
    simp only [wA_sI, wA_sA, wA_sJ, wA_sL, wA_nO, Nat.reduceEqDiff, reduceIte, if_true, if_false]
    rfl
  · unfold mvW
    simp only [wA_sI, wA_sA, wA_sJ, wA_sL, wA_nO, Nat.reduceEqDiff, reduceIte, if_true, if_false]
    rfl
  · unfold mvW
    simp only [wA_sI, wA_sA, wA_sJ, wA_sL, wA_nO, Nat.reduceEqDiff, reduceIte, if_true, if_false]
    rfl
  · unfold mvW
    simp only [wA_sI, wA_sA, wA_sJ, wA_sL, wA_nO, Nat.reduceEqDiff, reduceIte, if_true, if_false]
    rfl
  · unfold mvW
    simp only [wA_sI, wA_sA, wA_sJ, wA_sL, wA_nO, Nat.reduceEqDiff, reduceIte, if_true, if_false]
    rfl
  · unfold mvW
    simp only [wA_sI, wA_sA, wA_sJ, wA_sL, wA_nO, Nat.reduceEqDiff, reduceIte, if_true, if_false]
    rfl
  · unfold mvW
    simp only [wA_sI, wA_sA, wA_sJ, wA_sL, wA_nO, Nat.reduceEqDiff, reduceIte, if_true, if_false]
    rfl
  · unfold mvW
    simp only [wA_sI, wA_sA, wA_sJ, wA_sL, wA_nO, Nat.reduceEqDiff, reduceIte, if_true, if_false]
    rfl
  · unfold mvW
    simp only [wA_sI, wA_sA, wA_sJ, wA_sL, wA_nO, Nat.reduceEqDiff, reduceIte, if_true, if_false]
    rfl
  · unfold mvW
    simp only [wA_sI, wA_sA, wA_sJ, wA_sL, wA_nO, Nat.reduceEqDiff, reduceIte, if_true, if_false]
    rfl
  · unfold mvW
    simp only [wA_sI, wA_sA, wA_sJ, wA_sL, wA_nO, Nat.reduceEqDiff, reduceIte, if_true, if_false]
    rfl
  · unfold mvW nwW lsW
    simp only [wI_sI, wI_sA, wI_sJ, wI_sL, wI_sR, wI_sT, wI_nO, Nat.reduceEqDiff, reduceIte, if_true, if_false]
    first | rfl | (rw [if_neg (by omega)]; done) | (rw [if_neg (by omega)]; split <;> rfl)
  · unfold mvW nwW lsW
    simp only [wI_sI, wI_sA, wI_sJ, wI_sL, wI_sR, wI_sT, wI_nO, Nat.reduceEqDiff, reduceIte, if_true, if_false]
    first | rfl | (rw [if_neg (by omega)]; done) | (rw [if_neg (by omega)]; split <;> rfl)
  · unfold mvW nwW lsW
    simp only [wI_sI, wI_sA, wI_sJ, wI_sL, wI_sR, wI_sT, wI_nO, Nat.reduceEqDiff, reduceIte, if_true, if_false]
    first | rfl | (rw [if_neg (by omega)]; done) | (rw [if_neg (by omega)]; split <;> rfl)
  · unfold mvW nwW lsW
    simp only [wI_sI, wI_sA, wI_sJ, wI_sL, wI_sR, wI_sT, wI_nO, Nat.reduceEqDiff, reduceIte, if_true, if_false]
    first | rfl | (rw [if_neg (by omega)]; done) | (rw [if_neg (by omega)]; split <;> rfl)
  · unfold mvW nwW lsW
    simp only [wI_sI, wI_sA, wI_sJ, wI_sL, wI_sR, wI_sT, wI_nO, Nat.reduceEqDiff, reduceIte, if_true, if_false]
    first | rfl | (rw [if_neg (by omega)]; done) | (rw [if_neg (by omega)]; split <;> rfl)
  · unfold mvW nwW lsW
    simp only [wI_sI, wI_sA, wI_sJ, wI_sL, wI_sR, wI_sT, wI_nO, Nat.reduceEqDiff, reduceIte, if_true, if_false]
    first | rfl | (rw [if_neg (by omega)]; done) | (rw [if_neg (by omega)]; split <;> rfl)
  · unfold mvW nwW lsW
    simp only [wI_sI, wI_sA, wI_sJ, wI_sL, wI_sR, wI_sT, wI_nO, Nat.reduceEqDiff, reduceIte, if_true, if_false]
    first | rfl | (rw [if_neg (by omega)]; done) | (rw [if_neg (by omega)]; split <;> rfl)
  · unfold mvW nwW lsW
    simp only [wI_sI, wI_sA, wI_sJ, wI_sL, wI_sR, wI_sT, wI_nO, Nat.reduceEqDiff, reduceIte, if_true, if_false]
    first | rfl | (rw [if_neg (by omega)]; done) | (rw [if_neg (by omega)]; split <;> rfl)
  · unfold mvW
    simp only [wR_sI, wR_sA, wR_sJ, wR_sL, wR_nO]
    rw [if_neg (by omega)]
    exact nwW_R (by decide)
  · unfold lnV mvW
    simp only [wI_sI, wI_sA, wI_sJ, wI_sL, wI_nO, Nat.reduceEqDiff, reduceIte, if_true, if_false]
    exact congrArg (fun z => (z, (0 : Int32), (0 : Int32))) h716
  · rfl

theorem pr_work {n : Nat} {w : AW} (h : Rel n w) (hn : n < 512) (p0 p1 p2 p3 p4 : Int32) : sp_X11_work [.ref 200, .int p0, .int p1, .int p2, .int p3, .int p4] w (PRt ["java/lang/IllegalArgumentException"] sp_X12_work [.int p0, .int p1, .int p2, .int p3, .int p4] n) := by
  rw [sq_X11_work]
  have e0 : wI w 770 100 = nI (ct w 201) := h.c.1
  refine ⟨⟨h.ci, fun z => h.f.1 _ (Nat.le_refl _) z⟩, fun hc => ?_, fun hc => ?_, fun hc => ?_⟩
  · refine ⟨(by first | exact T222 | exact hR.o | exact h.o), 1, 0, OC.ex (by decide) (by decide) rfl, ?_⟩
    rw [oJ_1, sq_X12_work]
    exact ⟨⟨h.ri, h.rb⟩, fun _ => ⟨0, rfl, rfl, fun z => absurd z (by decide), h.up.thr 1⟩, fun a => absurd a.1 hc, fun a => absurd a.1 hc⟩
  · have e4 : ct w 201 = 40 := by have := (ci_works h.ci).2.2; omega
    refine ⟨(by first | exact T222 | exact hR.o | exact h.o), 0, _, OC.ok, ?_⟩
    rw [oJ_0, sq_X12_work]
    simp only [wI_sJ]
    rw [e0, e4]
    exact ⟨⟨h.ri, h.rb⟩, fun a => absurd hc.1 a, fun _ => ⟨_, rfl, rfl, fun _ => rfl, (h.up.out _).thr 0⟩, fun a => absurd rfl a.2⟩
  · obtain ⟨hA, hc⟩ := hc
    obtain ⟨f1, f2⟩ := h.f.1 _ (Nat.le_refl _) hc
    obtain ⟨L, hk, eL⟩ := h.m.1
    have f3 : wT w (3000 + L) = 0 := h.f.2.2.2.2.2.2 L (by rw [eL, nI_clamp (by omega)]; exact Nat.le_refl _)
    refine ⟨L, f3, ?_⟩
    have g : AX [] [] (fun x => x = 201) w (sJ (mvW (sL (nwW w (ct w 201) p0 p1 p2 p3 p4) 201 (wL w 201 ++ [1000 + ct w 201])) (ct w 201) 0 0 L) 222 0 (nI (ct w 201)).toInt64) := by
      unfold mvW
      refine AX.oJ ?_
      refine AX.oL ?_ (Or.inl f2)
      refine AX.oI ?_ (Or.inl f3)
      refine AX.oI ?_ (Or.inl f3)
      refine AX.oI ?_ (Or.inl f3)
      refine AX.mO ?_ f3
      refine AX.oI ?_ (Or.inl f1)
      refine AX.oI ?_ (Or.inl f1)
      refine AX.oL ?_ (Or.inr rfl)
      exact nwW_ax f1 f2
    have e1 : wI (sJ (mvW (sL (nwW w (ct w 201) p0 p1 p2 p3 p4) 201 (wL w 201 ++ [1000 + ct w 201])) (ct w 201) 0 0 L) 222 0 (nI (ct w 201)).toInt64) 770 100 = nI (ct w 201) := (g.I h.ri.1 (by decide) (by decide)).trans e0
    have e2 : wI (sJ (mvW (sL (nwW w (ct w 201) p0 p1 p2 p3 p4) 201 (wL w 201 ++ [1000 + ct w 201])) (ct w 201) 0 0 L) 222 0 (nI (ct w 201)).toInt64) 771 100 = nI L := (g.I h.ri.1 (by decide) (by decide)).trans eL
    have e3 : wI (sJ (mvW (sL (nwW w (ct w 201) p0 p1 p2 p3 p4) 201 (wL w 201 ++ [1000 + ct w 201])) (ct w 201) 0 0 L) 222 0 (nI (ct w 201)).toInt64) 769 100 = wI w 716 200 := (g.I h.ri.1 (by decide) (by decide)).trans h.c.2.2.2.2.2.1
    have T222 := g.xo h.o
    refine ⟨(by first | exact T222 | exact hR.o | exact h.o), 0, _, OC.ok, ?_⟩
    rw [oJ_0, sq_X12_work, e1, e2, e3]
    refine ⟨⟨g.xri h.ri (by decide), g.xrb h.ri h.rb (by decide) (by decide)⟩, fun a => absurd hA a, fun a => absurd a.2 ?_, fun _ => ⟨_, rfl, rfl, fun _ => nI_sub1 _, ?_⟩⟩
    · intro z
      have := (nI_eq (a := ct w 201) (b := 40) (by omega) (by decide)).mp z
      omega
    · rw [nI_succ1, nI_succ1, nI_clamp (show ct w 201 < 2 ^ 31 by omega), nI_clamp (show L < 2 ^ 31 by omega)]
      obtain ⟨z, hz, ez⟩ := in_le (n := 500) ⟨Int32.le_trans (by decide : (0 : Int32) ≤ 1) hA.2.2.1.1, hA.2.2.1.2⟩ rfl
      obtain ⟨z2, hz2, ez2⟩ := in_le (n := 9) hA.1 rfl
      exact rl_work h hn hc (by rw [ez2]; exact vp_in_nI (by omega) (by decide)) ⟨z, hz, ez⟩ hk eL

