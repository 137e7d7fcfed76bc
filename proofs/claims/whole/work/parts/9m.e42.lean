theorem AX.ag {w u : AW} {v : Int32} (g : AG (sI w 715 200 v) u) (hA : wA u = wA w) : AX [715] [] (fun _ => False) w u := fun x hx => by
  obtain ⟨a, b, c, d, e⟩ := g x hx
  refine ⟨a, b, fun _ => c, fun k hk => ⟨d k, ?_⟩, fun _ => by rw [hA]⟩
  rw [e k, wI_sI, if_neg (fun z => hk (by rw [z]; decide))]
theorem ln_ag {w : AW} {k : Nat} {n a d : Int32} (h1 : wT w (1900 + k) = 0) (h2 : wT w (2000 + k) = 0) (h3 : wT w 223 = 0) (hf : ∀ i, i < 10 → wT w (2100 + 10 * k + i) = 0) : AG (sI w 715 200 0) (lnR w k n a d).1 ∧ wA (lnR w k n a d).1 = wA w := by
  have kp : KP (lnW w k n a d) (lnR w k n a d).1 k := txR_kp 11 _ _ (KP.refl _ _)
  have eA : wA (lnW w k n a d) = wA w := by
    funext t j
    unfold lnW rdI nwL lsW
    simp only [wA_sI, wA_sR, wA_nO, wA_sL, wA_sT]
  have eN : wN (lnW w k n a d) = wN w := by
    funext t
    unfold lnW rdI nwL lsW
    simp only [wN_sI, wN_sR, wN_nO, wN_sL, wN_sT]
  refine ⟨fun x hx => ?_, kp.2.1.trans eA⟩
  rw [wT_sI] at hx
  have n2 : x ≠ 2000 + k := fun z => hx (by rw [z]; exact h2)
  have n3 : x ≠ 223 := fun z => hx (by rw [z]; exact h3)
  have n4 : ¬ (2100 + 10 * k ≤ x ∧ x < 2110 + 10 * k) := fun z => hx (by
    have := hf (x - (2100 + 10 * k)) (by omega)
    rw [show 2100 + 10 * k + (x - (2100 + 10 * k)) = x by omega] at this
    exact this)
  obtain ⟨a1, a2, a3, a4⟩ := lnR_old (n := n) (a := a) (d := d) h1 h2 h3 hf hx
  obtain ⟨-, -, -, -, b5⟩ := kp.2.2.2 x n2 n4
  have g := nwL_ag (w := w) (n := k) (a := a) (b := d) h1 h2 x hx
  revert a1 a2 a4 b5
  rw [kp.1, eN]
  generalize (lnR w k n a d).1 = U
  intro a1 a2 a4 b5
  refine ⟨by rw [wT_sI]; exact a1, by rw [wN_sI], by rw [wL_sI]; exact a2, fun q => by rw [wR_sI]; exact a4 q, fun q => ?_⟩
  rw [b5 q]
  show wI (sI (rdI (nwL w k a d) n k) 715 200 0) q x = _
  rw [wI_sI, wI_sI, rdI_I n3, g.2.2.2.2 q]
theorem mem_iota {b n q : Nat} (h : q ∈ iota b n) : ∃ i, i < n ∧ q = b + i := by
  obtain ⟨i, hi, e⟩ := List.mem_map.mp h
  exact ⟨i, List.mem_range.mp hi, e.symm⟩
/-- a new loan stands -/
theorem ln_np {w : AW} {k : Nat} {n a d : Int32} {cl : List (Int32 × Int32 × Int32)} {s : Nat × Int32} (hC : CIv w) (hk : k < 30) (h1 : wT w (1900 + k) = 0) (h2 : wT w (2000 + k) = 0) (h3 : wT w 223 = 0) (hf : ∀ i, i < 10 → wT w (2100 + 10 * k + i) = 0) (hc : CLS (lnR w k n a d).1 k cl) : LNp (sT (rdW (lnR w k n a d).1 s) 223 0) k ∧ wI (lnR w k n a d).1 385 (1900 + k) = a ∧ wI (lnR w k n a d).1 386 (1900 + k) = d ∧ (∀ x, ¬ (x = 1900 + k ∨ x = 2000 + k ∨ (2100 + 10 * k ≤ x ∧ x < 2110 + 10 * k)) → wT (sT (rdW (lnR w k n a d).1 s) 223 0) x = wT w x) := by
  have kp : KP (lnW w k n a d) (lnR w k n a d).1 k := txR_kp 11 _ _ (KP.refl _ _)
  obtain ⟨t1, t2, t3, t4, t5⟩ := kp.2.2.2 (1900 + k) (by omega) (by omega)
  obtain ⟨c1, c2, c3, c4⟩ := hc
  have np := nwL_ln2 (n := k) (a := a) (b := d) hC h1 h2
  have eT : ∀ x, ¬ (x = 1900 + k ∨ x = 2000 + k ∨ (2100 + 10 * k ≤ x ∧ x < 2110 + 10 * k)) → wT (sT (rdW (lnR w k n a d).1 s) 223 0) x = wT w x := fun x hx => by
    rw [wT_sT]
    by_cases z : x = 223
    · rw [if_pos z, z]; exact h3.symm
    · rw [if_neg z]
      show wT (lnR w k n a d).1 x = _
      rw [(kp.2.2.2 x (by omega) (by omega)).1, lnW_T, if_neg z, if_neg (by omega), if_neg (by omega)]
  have hLC := ci_C hC
  have T2 : wT (sT (rdW (lnR w k n a d).1 s) 223 0) (2000 + k) = 40 := by
    rw [wT_sT, if_neg (by omega)]
    show wT (lnR w k n a d).1 (2000 + k) = 40
    have q : ∀ dd u s, wT u (2000 + k) = 40 → wT (txR (wA w 209) n.toNatClampNeg k dd u s).1 (2000 + k) = 40 := fun dd => by
      induction dd with
      | zero => intro u s h; exact h
      | succ dd ih =>
        intro u s h
        rw [txR]
        split
        · refine ih _ _ ?_
          rcases rcC_or (wA w 209) n.toNatClampNeg k u s with e | ⟨-, j, x, y, e⟩
          · rw [e]; exact h
          · rw [e, addC_T, if_neg (by unfold cid; omega)]; exact h
        · exact h
    refine q 11 _ _ ?_
    rw [lnW_T, if_neg (by omega), if_pos rfl]
  have ec : ct (sT (rdW (lnR w k n a d).1 s) 223 0) (2000 + k) = cl.length := c1
  have eL : wL (sT (rdW (lnR w k n a d).1 s) 223 0) (2000 + k) = iota (2100 + 10 * k) cl.length := c3
  have hCl : ∀ i, i < cl.length → CLp (sT (rdW (lnR w k n a d).1 s) 223 0) (2100 + 10 * k + i) := fun i hi => by
    obtain ⟨⟨g1, g2, g3⟩, -⟩ := c4 i _ (List.getElem?_eq_getElem hi)
    refine ⟨?_, g2, g3⟩
    rw [wT_sT, if_neg (by omega)]; exact g1
  refine ⟨⟨?_, ?_, ⟨⟨?_, ?_, ?_, ?_⟩, T2, ?_, ?_⟩, ?_, ?_, ?_, ?_⟩, ?_, ?_, eT⟩
  · rw [wT_sT, if_neg (by omega)]
    show wT (lnR w k n a d).1 (1900 + k) = 7
    rw [t1, lnW_T, if_neg (by omega), if_neg (by omega), if_pos rfl]
  · show wR (lnR w k n a d).1 387 (1900 + k) = _
    rw [t4 387]
    show wR (rdI (nwL w k a d) n k) 387 (1900 + k) = _
    rw [rdI_R (by omega)]; exact nwL_k
  · rw [eT _ (by omega)]; exact hLC.1
  · rw [eT _ (by omega)]; exact hLC.2.1
  · rw [eT _ (by omega)]; exact hLC.2.2.1
  · rw [eT _ (by omega)]; exact hLC.2.2.2
  · show ct (sT (rdW (lnR w k n a d).1 s) 223 0) (2000 + k) ≤ 2190
    rw [ec]; omega
  · rw [eL]
    intro q hq
    obtain ⟨i, hi, e⟩ := mem_iota hq
    rw [e, (hCl i hi).1]; decide
  · rw [ec, eL]
  · rw [ec]; exact c2
  · rw [ec]; exact hCl
  · show wI (lnR w k n a d).1 384 (1900 + k) = _
    rw [t5 384]
    show wI (sI (rdI (nwL w k a d) n k) 715 200 0) 384 (1900 + k) = _
    rw [wI_sI, if_neg (by decide), rdI_I (by omega)]; exact np.2.2.2.2.2.2
  · rw [t5 385]
    show wI (sI (rdI (nwL w k a d) n k) 715 200 0) 385 (1900 + k) = _
    rw [wI_sI, if_neg (by decide), rdI_I (by omega)]
    unfold nwL
    simp only [wI_sI, Nat.reduceEqDiff, reduceIte, if_true, if_false]
  · rw [t5 386]
    show wI (sI (rdI (nwL w k a d) n k) 715 200 0) 386 (1900 + k) = _
    rw [wI_sI, if_neg (by decide), rdI_I (by omega)]
    unfold nwL
    simp only [wI_sI, Nat.reduceEqDiff, reduceIte, if_true, if_false]
theorem ru_lnF {n : Nat} {w u : AW} (h : Rel n w) (hq : ct w 204 < 30) (g : AX [715, 768, 797, 799, 800, 801] [138, 139, 140, 141] (fun _ => False) w u) (hI : CIv u) (hT : wT u = wT w) (u7 : wI u 715 200 = 0) (u9 : wI u 797 100 = 0) (r138 : ∀ i, i ≠ ct w 204 → wA u 138 i = wA w 138 i) (r9 : ∀ i, ¬ (10 * ct w 204 ≤ i ∧ i < 10 * ct w 204 + 10) → wA u 139 i = wA w 139 i ∧ wA u 140 i = wA w 140 i ∧ wA u 141 i = wA w 141 i) (hb : rng (wA u 138 (ct w 204)) 10) : Rel (n + 1) u := by
  have hC := h.ci
  have hR := h.ri
  refine ⟨hI, g.xri hR (by decide), ?_, ?_, g.xw hC hR h.wk (by first | exact id | (intro _ _; exact id)) (by decide) (by decide), ?_, g.xr hC hR h.r (by first | exact id | (intro _ _; exact id)) (by first | exact id | (intro _ _; exact id)) (by decide) (by decide), g.xk hC hR h.k (by first | exact id | (intro _ _; exact id)) (by first | exact id | (intro _ _; exact id)) (by decide) (by decide), g.xu hC hR h.u (by decide) (by decide) (by decide), g.xs hC hR h.s (by first | exact id | (intro _ _; exact id)) (by intro q hq; simp only [List.mem_cons, List.not_mem_nil, or_false] at hq <;> omega) (by intro q hq; simp only [List.mem_cons, List.not_mem_nil, or_false] at hq <;> omega) (by decide), g.xa hC hR h.a (by first | exact id | (intro _ _; exact id)) (Nat.le_of_eq (g.c3 hC (by first | exact id | (intro _ _; exact id))).symm) (by decide) (by decide), g.xg hC hR h.g (by first | exact id | (intro _ _; exact id)) (by first | exact id | (intro _ _; exact id)) (by first | exact id | (intro _ _; exact id)) (by decide), g.xd hC hR h.d (by first | exact id | (intro _ _; exact id)) (by first | exact id | (intro _ _; exact id)) (by first | exact id | (intro _ _; exact id)) (by decide), g.xn hC hR h.n (by first | exact id | (intro _ _; exact id)) (by first | exact id | (intro _ _; exact id)) (by decide) (by decide), (g.xm hC hR h.m (by first | exact id | (intro _ _; exact id)) (by first | exact id | (intro _ _; exact id)) (by decide)).up, ?_, g.xb hC hR h.b (by decide) (by decide) (by decide), RLf.st h.f (fun x => False) (fun x _ => by rw [hT]) (Nat.le_of_eq (g.c1 hC (by first | exact id | (intro _ _; exact id))).symm) (Nat.le_of_eq (g.c2 hC (by first | exact id | (intro _ _; exact id))).symm) (Nat.le_of_eq (g.c3 hC (by first | exact id | (intro _ _; exact id))).symm) (Nat.le_of_eq (g.c4 hC (by first | exact id | (intro _ _; exact id))).symm) (Nat.le_of_eq (g.c5 hC (by first | exact id | (intro _ _; exact id))).symm) (Nat.le_of_eq (congrArg _ (g.I hR.1 (by decide) (by decide)).symm)) (by intro n a b; first | exact ⟨id, id⟩ | exact ⟨id, id, id⟩ | exact id) (by intro n a b; first | exact ⟨id, id⟩ | exact ⟨id, id, id⟩ | exact id) (by intro n a b; first | exact ⟨id, id⟩ | exact ⟨id, id, id⟩ | exact id) (by intro n a b; first | exact ⟨id, id⟩ | exact ⟨id, id, id⟩ | exact id) (by intro n a b; refine ⟨by first | exact ⟨id, id⟩ | exact ⟨id, id, id⟩ | exact id, by first | exact ⟨id, id⟩ | exact ⟨id, id, id⟩ | exact id, fun i hi => ?_⟩; first | exact ⟨id, id⟩ | exact ⟨id, id, id⟩ | exact id) (by first | exact ⟨id, id⟩ | exact ⟨id, id, id⟩ | exact id) (by intro n a; first | exact ⟨id, id⟩ | exact ⟨id, id, id⟩ | exact id), g.xv hC hR h.v (by first | exact id | (intro _ _; exact id)) (by first | exact id | (intro _ _; exact id)) (by first | exact id | (intro _ _; exact id)) (by decide), g.xz hC hR h.z (by first | exact id | (intro _ _; exact id)) (by decide), g.xo h.o⟩
  · refine g.xrk hR h.rb (Or.inl (by decide)) (Or.inl (by decide)) (Or.inl (by decide)) (Or.inl (by decide)) (Or.inr (⟨0, by omega, u9⟩)) (Or.inl (by decide)) (Or.inl (by decide)) (Or.inl (by decide)) (Or.inl (by decide)) (Or.inl (by decide)) (Or.inl (by decide)) (Or.inl (by decide)) (Or.inr (?_)) (Or.inl (by decide)) (Or.inl (by decide))
    intro j hj
    by_cases z : j = ct w 204
    · rw [z]; exact hb
    · rw [r138 j z]; exact rb_clauseMany h.rb j hj
  · obtain ⟨q1, q2, q3, q4, q5, q6, q7⟩ := h.c
    have a1 := g.i1 hR (l := [770, 784, 787, 798, 809, 769]) (by decide)
    have a2 := g.i2 hC (l := [716]) (by decide)
    unfold RLc
    rw [u7, u9, g.c1 hC id, g.c2 hC id, g.c3 hC id, g.c4 hC id, g.c5 hC id]
    simp (disch := decide) only [a1, a2]
    exact ⟨q1, q2, q3, q4, q5, q6, trivial⟩
  · intro k hk
    rw [g.c4 hC id] at hk
    obtain ⟨L1, L2, L3, L4, L5, L6, L7⟩ := ci_L hC hk
    have aA := g.rows hR (l := [136, 137]) (by decide) (by decide)
    have aI := g.iL hC (l := [385, 386]) (by decide) hk
    have e0 := g.cn L3.2.1 (by decide) id
    simp (disch := decide) only [aA, aI, e0]
    obtain ⟨q1, q2, q3, q4⟩ := h.l k hk
    rw [r138 k (by omega)]
    refine ⟨q1, q2, q3, fun i hi => ?_⟩
    obtain ⟨z1, z2, z3⟩ := r9 (10 * k + i) (by omega)
    have cI : ∀ q, q ∈ [129, 130] → wI u q (2100 + 10 * k + i) = wI w q (2100 + 10 * k + i) := fun q z => g.I (L6 i hi).1 (by decide) (by
      simp only [List.mem_cons, List.not_mem_nil, or_false] at z
      rcases z with rfl | rfl <;> decide)
    have cR : wR u 128 (2100 + 10 * k + i) = wR w 128 (2100 + 10 * k + i) := g.R (L6 i hi).1 (by decide) (by decide)
    unfold kdN
    rw [z1, z2, z3, cR, cI 129 (by decide), cI 130 (by decide)]
    exact q4 i hi
  · unfold RLt
    rw [u7]
    exact fun i hi => absurd hi (Nat.not_lt_zero _)
theorem ru_lnS {n : Nat} {w u : AW} {a d : Int32} (h : Rel n w) (hq : ct w 204 < 30) (g : AX [715, 768, 797, 798, 799, 800, 801] [136, 137, 138, 139, 140, 141] (fun x => x = 204) w u) (hI : CIv u) (hT : ∀ x, ¬ (x = 1900 + ct w 204 ∨ x = 2000 + ct w 204 ∨ (2100 + 10 * ct w 204 ≤ x ∧ x < 2110 + 10 * ct w 204)) → wT u x = wT w x) (hc : ct u 204 = ct w 204 + 1) (u7 : wI u 715 200 = 0) (u9 : wI u 797 100 = 0) (u8 : wI u 798 100 = nI (ct w 204 + 1)) (r136 : ∀ i, wA u 136 i = if i = ct w 204 then a else wA w 136 i) (r137 : ∀ i, wA u 137 i = if i = ct w 204 then d else wA w 137 i) (r138 : ∀ i, i ≠ ct w 204 → wA u 138 i = wA w 138 i) (r9 : ∀ i, ¬ (10 * ct w 204 ≤ i ∧ i < 10 * ct w 204 + 10) → wA u 139 i = wA w 139 i ∧ wA u 140 i = wA w 140 i ∧ wA u 141 i = wA w 141 i) (hb : ct u (2000 + ct w 204) ≤ 10) (i385 : wI u 385 (1900 + ct w 204) = a) (i386 : wI u 386 (1900 + ct w 204) = d) (n138 : wA u 138 (ct w 204) = nI (ct u (2000 + ct w 204))) (nw : ∀ i, i < ct u (2000 + ct w 204) → wA u 139 (10 * ct w 204 + i) = nI (kdN u (2100 + 10 * ct w 204 + i)) ∧ wA u 140 (10 * ct w 204 + i) = wI u 129 (2100 + 10 * ct w 204 + i) ∧ wA u 141 (10 * ct w 204 + i) = wI u 130 (2100 + 10 * ct w 204 + i)) : Rel (n + 1) u := by
  have hC := h.ci
  have hR := h.ri
  refine ⟨hI, g.xri hR (by decide), ?_, ?_, g.xw hC hR h.wk (by first | omega | (intro _ _; omega) | (dsimp only; omega) | (intro _ _; dsimp only; omega)) (by decide) (by decide), ?_, g.xr hC hR h.r (by first | omega | (intro _ _; omega) | (dsimp only; omega) | (intro _ _; dsimp only; omega)) (by first | omega | (intro _ _; omega) | (dsimp only; omega) | (intro _ _; dsimp only; omega)) (by decide) (by decide), g.xk hC hR h.k (by first | omega | (intro _ _; omega) | (dsimp only; omega) | (intro _ _; dsimp only; omega)) (by first | omega | (intro _ _; omega) | (dsimp only; omega) | (intro _ _; dsimp only; omega)) (by decide) (by decide), g.xu hC hR h.u (by decide) (by decide) (by decide), g.xs hC hR h.s (by first | omega | (intro _ _; omega) | (dsimp only; omega) | (intro _ _; dsimp only; omega)) (by intro q hq; simp only [List.mem_cons, List.not_mem_nil, or_false] at hq <;> omega) (by intro q hq; simp only [List.mem_cons, List.not_mem_nil, or_false] at hq <;> omega) (by decide), g.xa hC hR h.a (by first | omega | (intro _ _; omega) | (dsimp only; omega) | (intro _ _; dsimp only; omega)) (Nat.le_of_eq (g.c3 hC (by first | omega | (intro _ _; omega) | (dsimp only; omega) | (intro _ _; dsimp only; omega))).symm) (by decide) (by decide), g.xg hC hR h.g (by first | omega | (intro _ _; omega) | (dsimp only; omega) | (intro _ _; dsimp only; omega)) (by first | omega | (intro _ _; omega) | (dsimp only; omega) | (intro _ _; dsimp only; omega)) (by first | omega | (intro _ _; omega) | (dsimp only; omega) | (intro _ _; dsimp only; omega)) (by decide), g.xd hC hR h.d (by first | omega | (intro _ _; omega) | (dsimp only; omega) | (intro _ _; dsimp only; omega)) (by first | omega | (intro _ _; omega) | (dsimp only; omega) | (intro _ _; dsimp only; omega)) (by first | omega | (intro _ _; omega) | (dsimp only; omega) | (intro _ _; dsimp only; omega)) (by decide), g.xn hC hR h.n (by first | omega | (intro _ _; omega) | (dsimp only; omega) | (intro _ _; dsimp only; omega)) (by first | omega | (intro _ _; omega) | (dsimp only; omega) | (intro _ _; dsimp only; omega)) (by decide) (by decide), (g.xm hC hR h.m (by first | omega | (intro _ _; omega) | (dsimp only; omega) | (intro _ _; dsimp only; omega)) (by first | omega | (intro _ _; omega) | (dsimp only; omega) | (intro _ _; dsimp only; omega)) (by decide)).up, ?_, g.xb hC hR h.b (by decide) (by decide) (by decide), RLf.st h.f (fun x => x = 1900 + ct w 204 ∨ x = 2000 + ct w 204 ∨ (2100 + 10 * ct w 204 ≤ x ∧ x < 2110 + 10 * ct w 204)) (hT) (Nat.le_of_eq (g.c1 hC (by first | omega | (intro _ _; omega) | (dsimp only; omega) | (intro _ _; dsimp only; omega))).symm) (Nat.le_of_eq (g.c2 hC (by first | omega | (intro _ _; omega) | (dsimp only; omega) | (intro _ _; dsimp only; omega))).symm) (Nat.le_of_eq (g.c3 hC (by first | omega | (intro _ _; omega) | (dsimp only; omega) | (intro _ _; dsimp only; omega))).symm) (by omega) (Nat.le_of_eq (g.c5 hC (by first | omega | (intro _ _; omega) | (dsimp only; omega) | (intro _ _; dsimp only; omega))).symm) (Nat.le_of_eq (congrArg _ (g.I hR.1 (by decide) (by decide)).symm)) (by intro n a b; first | omega | (dsimp only; omega)) (by intro n a b; first | omega | (dsimp only; omega)) (by intro n a b; first | omega | (dsimp only; omega)) (by intro n a b; first | omega | (dsimp only; omega)) (by intro n a b; refine ⟨by first | omega | (dsimp only; omega), by first | omega | (dsimp only; omega), fun i hi => ?_⟩; first | omega | (dsimp only; omega)) (by first | omega | (dsimp only; omega)) (by intro n a; first | omega | (dsimp only; omega)), g.xv hC hR h.v (by first | omega | (intro _ _; omega) | (dsimp only; omega) | (intro _ _; dsimp only; omega)) (by first | omega | (intro _ _; omega) | (dsimp only; omega) | (intro _ _; dsimp only; omega)) (by first | omega | (intro _ _; omega) | (dsimp only; omega) | (intro _ _; dsimp only; omega)) (by decide), g.xz hC hR h.z (by first | omega | (intro _ _; omega) | (dsimp only; omega) | (intro _ _; dsimp only; omega)) (by decide), g.xo h.o⟩
  · refine g.xrk hR h.rb (Or.inl (by decide)) (Or.inl (by decide)) (Or.inl (by decide)) (Or.inl (by decide)) (Or.inr (⟨0, by omega, u9⟩)) (Or.inr (⟨ct w 204 + 1, hq, u8⟩)) (Or.inl (by decide)) (Or.inl (by decide)) (Or.inl (by decide)) (Or.inl (by decide)) (Or.inl (by decide)) (Or.inl (by decide)) (Or.inr (?_)) (Or.inl (by decide)) (Or.inl (by decide))
    intro j hj
    by_cases z : j = ct w 204
    · rw [z, n138]; exact ⟨_, hb, rfl⟩
    · rw [r138 j z]; exact rb_clauseMany h.rb j hj
  · obtain ⟨q1, q2, q3, q4, q5, q6, q7⟩ := h.c
    have a1 := g.i1 hR (l := [770, 784, 787, 809, 769]) (by decide)
    have a2 := g.i2 hC (l := [716]) (by decide)
    unfold RLc
    rw [u7, u9, u8, hc, g.c1 hC (by first | omega | (intro _ _; omega) | (dsimp only; omega) | (intro _ _; dsimp only; omega)), g.c2 hC (by first | omega | (intro _ _; omega) | (dsimp only; omega) | (intro _ _; dsimp only; omega)), g.c3 hC (by first | omega | (intro _ _; omega) | (dsimp only; omega) | (intro _ _; dsimp only; omega)), g.c5 hC (by first | omega | (intro _ _; omega) | (dsimp only; omega) | (intro _ _; dsimp only; omega))]
    simp (disch := decide) only [a1, a2]
    exact ⟨q1, q2, q3, trivial, q5, q6, trivial⟩
  · intro k hk
    rw [r136, r137]
    by_cases z : k = ct w 204
    · subst z
      rw [if_pos rfl, if_pos rfl, i385, i386, n138]
      exact ⟨rfl, rfl, rfl, nw⟩
    · have hk : k < ct w 204 := by omega
      obtain ⟨L1, L2, L3, L4, L5, L6, L7⟩ := ci_L hC hk
      have aI := g.iL hC (l := [385, 386]) (by decide) hk
      have e0 := g.cn L3.2.1 (by decide) (show ¬ 2000 + k = 204 by omega)
      simp (disch := decide) only [aI, e0]
      obtain ⟨q1, q2, q3, q4⟩ := h.l k hk
      rw [if_neg z, if_neg z, r138 k z]
      refine ⟨q1, q2, q3, fun i hi => ?_⟩
      obtain ⟨z1, z2, z3⟩ := r9 (10 * k + i) (by omega)
      have cI : ∀ q, q ∈ [129, 130] → wI u q (2100 + 10 * k + i) = wI w q (2100 + 10 * k + i) := fun q z => g.I (L6 i hi).1 (by decide) (by
        simp only [List.mem_cons, List.not_mem_nil, or_false] at z
        rcases z with rfl | rfl <;> decide)
      have cR : wR u 128 (2100 + 10 * k + i) = wR w 128 (2100 + 10 * k + i) := g.R (L6 i hi).1 (by decide) (by decide)
      unfold kdN
      rw [z1, z2, z3, cR, cI 129 (by decide), cI 130 (by decide)]
      exact q4 i hi
  · unfold RLt
    rw [u7]
    exact fun i hi => absurd hi (Nat.not_lt_zero _)

