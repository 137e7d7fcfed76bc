theorem rkF_cg {V w : AW} (aA : ∀ t, t ∈ rfI → wA V t = wA w t) (h1 : wI V 798 100 = wI w 798 100) (h2 : wI V 769 100 = wI w 769 100) (c : Nat) : ∀ i, rkF V c i = rkF w c i
  | 0 => rfl
  | i + 1 => by
    have e := (ref_cg aA h1 h2).1
    rw [rkF, rkF, rkF_cg aA h1 h2 c i]
    simp (disch := decide) only [aA, h2, e]
theorem rkF_sJ (w : AW) (t j : Nat) (v : Int64) (c i : Nat) : rkF (sJ w t j v) c i = rkF w c i := rkF_cg (V := sJ w t j v) (w := w) (fun _ _ => rfl) rfl rfl c i
theorem ru_unpack {n c L : Nat} {w u : AW} {x : Int32} (h : Rel n w) (hn : n < 512) (hcr : c < ct w 205) (eL : wI w 771 100 = nI L) (hk : L ≤ 4 * n) (g : AX [647, 648, 768, 771] [110, 111, 113, 114, 115, 116, 145] (fun y => (1100 ≤ y ∧ y < 1140) ∨ y = 1800 + c) w u) (hI : CIv u) (hT : ∀ y, ¬ (3000 + L ≤ y ∧ y < 3000 + L + ct w (1800 + c)) → wT u y = wT w y) (p7 : ∀ k, k < 40 → wI u 647 (1000 + k) = if 1000 + k ∈ wL w (1800 + c) then 1 else wI w 647 (1000 + k)) (p8 : ∀ k, k < 40 → wI u 648 (1000 + k) = if 1000 + k ∈ wL w (1800 + c) then x else wI w 648 (1000 + k)) (hLn : ∀ k, k < ct w 201 → (wL u (1100 + k)).map (lnV u) = (wL w (1100 + k)).map (lnV w) ++ (if 1000 + k ∈ wL w (1800 + c) then [(wI w 716 200, 1, x)] else [])) (h771 : wI u 771 100 = nI (L + ct w (1800 + c))) (r110 : ∀ k, k < 40 → wA u 110 k = if 1000 + k ∈ wL w (1800 + c) then 1 else wA w 110 k) (r111 : ∀ k, k < 40 → wA u 111 k = if 1000 + k ∈ wL w (1800 + c) then x else wA w 111 k) (rl : ∀ k, k < 40 → refL (wA u 113) (wA u 114) (wA u 115) (wA u 116) (nI k) (L + ct w (1800 + c)) = refL (wA w 113) (wA w 114) (wA w 115) (wA w 116) (nI k) L ++ (if 1000 + k ∈ wL w (1800 + c) then [(wI w 716 200, 1, x)] else [])) (rj : ∀ j, j < L + ct w (1800 + c) → ∃ m, m < ct w 201 ∧ wA u 113 j = nI m) (hL2 : wL u (1800 + c) = []) (r145 : ∀ j, wA u 145 j = if j = c then 0 else wA w 145 j) : Rel (n + 1) u := by
  have hC := h.ci
  have hR := h.ri
  have bd := hC.bd
  have h4 := (ci_Cr hC hcr).2.2.2.2
  have eL1 : (wI w 771 100).toNatClampNeg = L := by rw [eL, nI_clamp (by omega)]
  have eL2 : (wI u 771 100).toNatClampNeg = L + ct w (1800 + c) := by rw [h771, nI_clamp (by omega)]
  have c1 := g.c1 hC (show ¬ ((1100 ≤ 201 ∧ 201 < 1140) ∨ 201 = 1800 + c) by omega)
  have hnot : ∀ k, ct w 201 ≤ k → 1000 + k ∉ wL w (1800 + c) := fun k hk y => by
    obtain ⟨j, hj, e⟩ := (ci_Cr hC hcr).2.2.2.1 _ y
    omega
  refine ⟨hI, g.xri hR (by decide), ?_, g.xc hC hR h.c (by first | omega | (intro _ _; omega) | (dsimp only; omega) | (intro _ _; dsimp only; omega)) (by first | omega | (intro _ _; omega) | (dsimp only; omega) | (intro _ _; dsimp only; omega)) (by first | omega | (intro _ _; omega) | (dsimp only; omega) | (intro _ _; dsimp only; omega)) (by first | omega | (intro _ _; omega) | (dsimp only; omega) | (intro _ _; dsimp only; omega)) (by first | omega | (intro _ _; omega) | (dsimp only; omega) | (intro _ _; dsimp only; omega)) (by decide), ?_, g.xl hC hR h.l (by first | omega | (intro _ _; omega) | (dsimp only; omega) | (intro _ _; dsimp only; omega)) (by first | omega | (intro _ _; omega) | (dsimp only; omega) | (intro _ _; dsimp only; omega)) (by decide) (by decide), g.xr hC hR h.r (by first | omega | (intro _ _; omega) | (dsimp only; omega) | (intro _ _; dsimp only; omega)) (by first | omega | (intro _ _; omega) | (dsimp only; omega) | (intro _ _; dsimp only; omega)) (by decide) (by decide), ?_, g.xu hC hR h.u (by decide) (by decide) (by decide), g.xs hC hR h.s (by first | omega | (intro _ _; omega) | (dsimp only; omega) | (intro _ _; dsimp only; omega)) (by intro q hq; simp only [List.mem_cons, List.not_mem_nil, or_false] at hq <;> omega) (by intro q hq; simp only [List.mem_cons, List.not_mem_nil, or_false] at hq <;> omega) (by decide), g.xa hC hR h.a (by first | omega | (intro _ _; omega) | (dsimp only; omega) | (intro _ _; dsimp only; omega)) (Nat.le_of_eq (g.c3 hC (by first | omega | (intro _ _; omega) | (dsimp only; omega) | (intro _ _; dsimp only; omega))).symm) (by decide) (by decide), ?_, ?_, ?_, ?_, g.xt hC hR h.t (by decide) (by decide) (by decide), g.xb hC hR h.b (by decide) (by decide) (by decide), RLf.st h.f (fun x => 3000 + L ≤ x ∧ x < 3000 + L + ct w (1800 + c)) (hT) (Nat.le_of_eq (g.c1 hC (by first | omega | (intro _ _; omega) | (dsimp only; omega) | (intro _ _; dsimp only; omega))).symm) (Nat.le_of_eq (g.c2 hC (by first | omega | (intro _ _; omega) | (dsimp only; omega) | (intro _ _; dsimp only; omega))).symm) (Nat.le_of_eq (g.c3 hC (by first | omega | (intro _ _; omega) | (dsimp only; omega) | (intro _ _; dsimp only; omega))).symm) (Nat.le_of_eq (g.c4 hC (by first | omega | (intro _ _; omega) | (dsimp only; omega) | (intro _ _; dsimp only; omega))).symm) (Nat.le_of_eq (g.c5 hC (by first | omega | (intro _ _; omega) | (dsimp only; omega) | (intro _ _; dsimp only; omega))).symm) (by omega) (by intro n a b; first | omega | (dsimp only; omega)) (by intro n a b; first | omega | (dsimp only; omega)) (by intro n a b; first | omega | (dsimp only; omega)) (by intro n a b; first | omega | (dsimp only; omega)) (by intro n a b; refine ⟨by first | omega | (dsimp only; omega), by first | omega | (dsimp only; omega), fun i hi => ?_⟩; first | omega | (dsimp only; omega)) (by first | omega | (dsimp only; omega)) (by intro n a; first | omega | (dsimp only; omega)), ?_, g.xz hC hR h.z (by first | omega | (intro _ _; omega) | (dsimp only; omega) | (intro _ _; dsimp only; omega)) (by decide), g.xo h.o⟩
  · refine g.xrk hR h.rb (Or.inl (by decide)) (Or.inr (⟨L + ct w (1800 + c), by omega, h771⟩)) (Or.inl (by decide)) (Or.inl (by decide)) (Or.inl (by decide)) (Or.inl (by decide)) (Or.inl (by decide)) (Or.inl (by decide)) (Or.inr (?_)) (Or.inl (by decide)) (Or.inl (by decide)) (Or.inl (by decide)) (Or.inl (by decide)) (Or.inl (by decide)) (Or.inl (by decide))
    intro j hj
    rw [r145]
    split
    · exact ⟨0, by omega, rfl⟩
    · exact rb_held h.rb j hj
  · intro r hr
    rw [c1] at hr
    have aA := g.rows hR (l := [105, 106, 107, 108, 109, 112]) (by decide) (by decide)
    have aI := g.iW hC (l := [641, 642, 643, 644, 645, 649]) (by decide) hr
    rw [r110 _ (by omega), r111 _ (by omega), p7 _ (by omega), p8 _ (by omega)]
    simp (disch := decide) only [aA, aI]
    obtain ⟨q1, q2, q3, q4, q5, q6, q7, q8⟩ := h.wk r hr
    refine ⟨q1, q2, q3, q4, q5, ?_, ?_, q8⟩
    · split
      · rfl
      · exact q6
    · split
      · rfl
      · exact q7
  · intro r hr
    rw [g.c5 hC (by first | omega | (intro _ _; omega) | (dsimp only; omega) | (intro _ _; dsimp only; omega))] at hr
    have aA := g.rows hR (l := [143, 144, 146, 147, 148]) (by decide) (by decide)
    have aI := g.iC hC (l := [192, 193, 195, 196]) (by decide) hr
    simp (disch := decide) only [aA, aI]
    obtain ⟨q1, q2, q3, q4, q5, q6, q7⟩ := h.k r hr
    by_cases z : r = c
    · subst z
      have ec : ct u (1800 + r) = 0 := by unfold ct at *; rw [hL2]; rfl
      rw [r145, if_pos rfl, ec]
      exact ⟨q1, q2, rfl, fun i hi => absurd hi (Nat.not_lt_zero _), q5, q6, q7⟩
    · have eL := g.L (ci_Cr hC hr).2.2.1.2.1 (by decide) (show ¬ ((1100 ≤ 1800 + r ∧ 1800 + r < 1140) ∨ 1800 + r = 1800 + c) by omega)
      have e0 := g.cn (ci_Cr hC hr).2.2.1.2.1 (by decide) (show ¬ ((1100 ≤ 1800 + r ∧ 1800 + r < 1140) ∨ 1800 + r = 1800 + c) by omega)
      unfold elN
      rw [eL, e0, r145, if_neg z]
      exact ⟨q1, q2, q3, q4, q5, q6, q7⟩
  · unfold RLg
    rw [c1, g.c2 hC (by first | omega | (intro _ _; omega) | (dsimp only; omega) | (intro _ _; dsimp only; omega))]
    refine ⟨fun r hr => ?_, fun k hk => ?_⟩
    · rw [g.L (ci_R hC hr).2.2.1.2.1 (by decide) (show ¬ ((1100 ≤ 1300 + r ∧ 1300 + r < 1140) ∨ 1300 + r = 1800 + c) by omega)]
      refine ⟨(h.g.1 r hr).1, fun k hk => ?_⟩
      rw [g.R (k := 650) (ci_W hC hk).1 (by decide) (by decide)]
      exact (h.g.1 r hr).2 k hk
    · rw [g.R (k := 650) (ci_W hC hk).1 (by decide) (by decide), p7 _ (by omega), p8 _ (by omega)]
      by_cases z : 1000 + k ∈ wL w (1800 + c)
      · rw [if_pos z, if_pos z]
        have q := ((h.d c hcr).2 k hk z).1
        rcases h.g.2 k hk with ⟨r, hr, a, b, d⟩ | ⟨a, b⟩
        · rw [q] at b; exact absurd b (by decide)
        · exact Or.inr ⟨a, by decide⟩
      · rw [if_neg z, if_neg z]
        exact h.g.2 k hk
  · unfold RLd
    rw [c1, g.c5 hC (by first | omega | (intro _ _; omega) | (dsimp only; omega) | (intro _ _; dsimp only; omega))]
    intro r hr
    by_cases z : r = c
    · subst z
      rw [hL2]
      exact ⟨List.nodup_nil, fun k hk y => absurd y List.not_mem_nil⟩
    · rw [g.L (ci_Cr hC hr).2.2.1.2.1 (by decide) (show ¬ ((1100 ≤ 1800 + r ∧ 1800 + r < 1140) ∨ 1800 + r = 1800 + c) by omega)]
      refine ⟨(h.d r hr).1, fun k hk y => ?_⟩
      have q := (h.d r hr).2 k hk y
      have y2 : 1000 + k ∉ wL w (1800 + c) := fun y2 => by
        have q2 := (h.d c hcr).2 k hk y2
        rw [q.2] at q2
        exact z ((nI_eq (by omega) (by omega)).mp q2.2)
      rw [p7 _ (by omega), p8 _ (by omega), if_neg y2, if_neg y2]
      exact q
  · unfold RLn
    rw [c1, eL2]
    refine ⟨fun k hk => ?_, rj⟩
    rw [hLn k hk, rl k (by omega), h.n.1 k hk, eL1]
  · obtain ⟨-, q2, q3⟩ := h.m
    have a2 := g.i2 hC (l := [716]) (by decide)
    have a3 := g.I (k := 67) (ci_BK hC).1 (by decide) (by decide)
    unfold RLm
    rw [c1, a3, a2 716 (by decide)]
    refine ⟨⟨_, by omega, h771⟩, fun k hk => ?_, q3⟩
    have e := congrArg List.length (hLn k hk)
    rw [List.length_map, List.length_append, List.length_map] at e
    have e : ct u (1100 + k) = ct w (1100 + k) + _ := e
    have q := q2 k hk
    rw [e]
    split
    · exact Nat.succ_le_succ q
    · exact Nat.le_succ_of_le q
  · have aA := g.rows hR (l := [127, 128]) (by decide) (by decide)
    unfold RLv
    rw [c1, g.c2 hC (by first | omega | (intro _ _; omega) | (dsimp only; omega) | (intro _ _; dsimp only; omega)), g.c5 hC (by first | omega | (intro _ _; omega) | (dsimp only; omega) | (intro _ _; dsimp only; omega))]
    simp (disch := decide) only [aA]
    refine ⟨h.v.1, fun k hk hk2 => ?_, fun k hk hk4 => ?_⟩
    · rw [r145, if_neg (by omega)]; exact h.v.2.1 k hk hk2
    · rw [r110 k hk4, if_neg (hnot k hk)]; exact h.v.2.2 k hk hk4

theorem rl_unpack {n c L : Nat} {w : AW} {x : Int32} {y : Int64} (h : Rel n w) (hn : n < 512) (hcr : c < ct w 205) (eL : wI w 771 100 = nI L) (hk : L ≤ 4 * n) : RLo (sJ (sL (ucW w c x L (ct w (1800 + c))) (1800 + c) []) 222 0 y) ∧ (∀ t, t ∈ rfI → wA (sJ (sL (ucW w c x L (ct w (1800 + c))) (1800 + c) []) 222 0 y) t = wA w t) ∧ (∀ k, k ∈ [769, 770, 771, 787, 798, 809] → wI (sJ (sL (ucW w c x L (ct w (1800 + c))) (1800 + c) []) 222 0 y) k 100 = wI w k 100) ∧ RI (sJ (sL (ucW w c x L (ct w (1800 + c))) (1800 + c) []) 222 0 y) ∧ RB (sJ (sL (ucW w c x L (ct w (1800 + c))) (1800 + c) []) 222 0 y) ∧ wI (ugW (sJ (sL (ucW w c x L (ct w (1800 + c))) (1800 + c) []) 222 0 y) c x (ct w (1800 + c))) 768 100 = 0 ∧ Rel (n + 1) (sA (ugW (sJ (sL (ucW w c x L (ct w (1800 + c))) (1800 + c) []) 222 0 y) c x (ct w (1800 + c))) 145 c 0) := by
  obtain ⟨g0, hT, hI, p7, p8, hL⟩ := uc_facts (x := x) h hn hcr eL hk (ct w (1800 + c)) (Nat.le_refl _)
  have hC := h.ci
  have bd := hC.bd
  have ht : tk w c (ct w (1800 + c)) = wL w (1800 + c) := List.take_of_length_le (Nat.le_refl _)
  rw [ht] at p7 p8 hL
  have g : AX [647, 648] [] (fun y => (1100 ≤ y ∧ y < 1140) ∨ y = 1800 + c) w (sJ (sL (ucW w c x L (ct w (1800 + c))) (1800 + c) []) 222 0 y) := by
    refine AX.oJ ?_
    refine AX.oL ?_ (Or.inr (Or.inr rfl))
    exact fun z hz => ⟨(g0 z hz).1, (g0 z hz).2.1, fun hl => (g0 z hz).2.2.1 (fun q => hl (Or.inl q)), (g0 z hz).2.2.2⟩
  have hIV : CIv (sJ (sL (ucW w c x L (ct w (1800 + c))) (1800 + c) []) 222 0 y) := by
    rw [CIv_out]
    refine CIv_load hI ?_ (by decide) (fun q hq => absurd hq List.not_mem_nil)
    rw [g0.c5 hC (by omega)]; exact hcr
  have hLV : ∀ k, k < 40 → wL (sJ (sL (ucW w c x L (ct w (1800 + c))) (1800 + c) []) 222 0 y) (1100 + k) = wL (ucW w c x L (ct w (1800 + c))) (1100 + k) := fun k hk => by
    rw [wL_sJ, wL_sL, if_neg (by omega)]
  have hL2 : wL (sJ (sL (ucW w c x L (ct w (1800 + c))) (1800 + c) []) 222 0 y) (1800 + c) = [] := by
    rw [wL_sJ, wL_sL, if_pos rfl]
  have hVI : ∀ k z, wI (sJ (sL (ucW w c x L (ct w (1800 + c))) (1800 + c) []) 222 0 y) k z = wI (ucW w c x L (ct w (1800 + c))) k z := fun _ _ => rfl
  have hVT : ∀ z, wT (sJ (sL (ucW w c x L (ct w (1800 + c))) (1800 + c) []) 222 0 y) z = wT (ucW w c x L (ct w (1800 + c))) z := fun _ => rfl
  revert g hIV hLV hL2 hVI hVT
  generalize sJ (sL (ucW w c x L (ct w (1800 + c))) (1800 + c) []) 222 0 y = V
  intro g hIV hLV hL2 hVI hVT
  have aA : ∀ t, t ∈ rfI → wA V t = wA w t := g.rows h.ri (fun _ z => z) (fun _ _ => List.not_mem_nil)
  have a1 : ∀ k, k ∈ [769, 770, 771, 787, 798, 809] → wI V k 100 = wI w k 100 := g.i1 h.ri (by decide)
  have hri : RI V := g.xri h.ri (by decide)
  have hrb : RB V := g.xrb h.ri h.rb (by decide) (by decide)
  obtain ⟨⟨q1, q2, q3⟩, ⟨t1, t2, t3, t4, t6, t5⟩, r0, r110, r111, rl, rj⟩ := ug_facts (x := x) h hn hcr eL hk aA a1 (ct w (1800 + c)) (Nat.le_refl _)
  rw [ht] at r110 r111 rl
  refine ⟨g.xo h.o, aA, a1, hri, hrb, q3, ?_⟩
  revert q1 q2 q3 t1 t2 t3 t4 t5 t6 r0 r110 r111 rl rj
  generalize ugW V c x (ct w (1800 + c)) = v
  intro q1 q2 q3 t1 t2 t3 t4 t6 t5 r0 r110 r111 rl rj
  have hlnV : lnV (sA v 145 c 0) = lnV (ucW w c x L (ct w (1800 + c))) := by
    funext z
    unfold lnV
    simp only [wI_sA]
    rw [t5 320 z (by decide) (by decide), t5 321 z (by decide) (by decide), t5 322 z (by decide) (by decide), hVI, hVI, hVI]
  have nA : ∀ t, t ≠ 145 → wA (sA v 145 c 0) t = wA v t := fun t ht => by funext j; rw [wA_sA, if_neg ht]
  refine ru_unpack (x := x) h hn hcr eL hk ?_ ?_ (fun z hz => ?_) (fun k hk => ?_) (fun k hk => ?_) (fun k hk => ?_) ?_ (fun k hk => ?_) (fun k hk => ?_) (fun k hk => ?_) (fun j hj => ?_) ?_ (fun j => ?_)
  · refine AX.oA ?_ (Or.inr (by decide))
    intro z hz
    obtain ⟨a, b, d, e, f⟩ := g z hz
    refine ⟨by rw [t1]; exact a, by rw [t3]; exact b, fun hl => by rw [t4]; exact d hl, fun k hk => ?_, fun hr => ?_⟩
    · simp only [List.mem_cons, List.not_mem_nil, or_false, not_or] at hk
      have hk' : k ∉ [647, 648] := by simp only [List.mem_cons, List.not_mem_nil, or_false, not_or]; exact ⟨hk.1, hk.2.1⟩
      rw [t2, t5 k z hk.2.2.2 hk.2.2.1]
      exact e k hk'
    · simp only [List.mem_cons, List.not_mem_nil, or_false, not_or] at hr
      rw [r0 z (by simp only [List.mem_cons, List.not_mem_nil, or_false, not_or]; exact ⟨hr.1, hr.2.1, hr.2.2.1, hr.2.2.2.1, hr.2.2.2.2.1, hr.2.2.2.2.2.1⟩)]
      exact f List.not_mem_nil
  · rw [CIv_sA]
    have ss : SS [768, 771] v V := ⟨t1, t2, t3, t4, t6, fun k z hk => ?_⟩
    · rw [ss.ci (by decide) (by decide) (by decide) (by decide)]; exact hIV
    · simp only [List.mem_cons, List.not_mem_nil, or_false, not_or] at hk
      exact t5 k z hk.2 hk.1
  · rw [wT_sA, t1, hVT]; exact hT z hz
  · rw [wI_sA, t5 _ _ (by decide) (by decide), hVI]; exact p7 k hk
  · rw [wI_sA, t5 _ _ (by decide) (by decide), hVI]; exact p8 k hk
  · rw [hlnV, wL_sA, t4, hLV k (by omega)]; exact hL k hk
  · rw [wI_sA]; exact q1
  · rw [nA _ (by decide)]; exact r110 k hk
  · rw [nA _ (by decide)]; exact r111 k hk
  · rw [nA _ (by decide), nA _ (by decide), nA _ (by decide), nA _ (by decide)]; exact rl k hk
  · rw [nA _ (by decide)]; exact rj j hj
  · rw [wL_sA, t4]; exact hL2
  · rw [wA_sA, if_pos rfl, r0 145 (by decide), aA 145 (by decide)]

theorem pr_unpack {n : Nat} {w : AW} (h : Rel n w) (hn : n < 512) (p0 : Int32) : sp_X11_unpack [.ref 200, .int p0] w (PRt ["java/util/NoSuchElementException"] sp_X12_unpack [.int p0] n) := by
  have bd := h.ci.bd
  have e5 : wI w 809 100 = nI (ct w 205) := h.c.2.2.2.2.1
  have e7 : wI w 769 100 = wI w 716 200 := h.c.2.2.2.2.2.1
  have BD : CIv w ∧ (∀ n, n < ct w 201 → ct w (1100 + n) + 4 ≤ 1024) := ⟨h.ci, fun k hk => by have := h.m.2.1 k hk; omega⟩
  rw [sq_X11_unpack]
  by_cases hA : (0 ≤ p0 ∧ p0 < nI (ct w 205))
  rotate_left
  · refine ⟨BD, fun hc => ?_, fun hc => absurd hc.1 hA, fun hc => absurd hc.1 hA, fun hc => absurd hc.1 hA⟩
    refine ⟨(by first | exact T222 | exact hR.o | exact h.o), 1, 0, OC.ex (by decide) (by decide) rfl, ?_⟩
    rw [oJ_1, sq_X12_unpack, e5]
    exact ⟨⟨h.ri, h.rb⟩, (fun _ => ⟨0, rfl, rfl, fun z => absurd z (by decide), h.up.thr 1⟩), fun a => absurd a.1 hA, fun a => absurd a.1 hA, fun a => absurd a.1 hA⟩
  obtain ⟨c, hcr, rfl⟩ := in_ct (n := ct w 205) (by omega) (Int32.not_lt.mpr hA.1) (Int32.not_le.mpr hA.2)
  have cm : (nI c).toNatClampNeg = c := nI_clamp (by omega)
  obtain ⟨k1, k2, k3, k4, k5, k6, k7⟩ := h.k c hcr
  have way : (wI w 716 200 < wI w 196 (1700 + c)) = (¬ wI w 195 (1700 + c) = -1 ∧ wI w 716 200 < wI w 196 (1700 + c)) := by
    have q := propext (way_eq h hcr)
    rw [k6] at q; exact q
  have hc4 := (ci_Cr h.ci hcr).2.2.2.2
  have ccn : (nI (ct w (1800 + c))).toNatClampNeg = ct w (1800 + c) := nI_clamp (by omega)
  have H0 : (nI (ct w (1800 + c)) = 0) = (wL w (1800 + c) = []) := by
    have q := propext (ld_nil h hcr)
    rw [k3] at q; exact q
  have erk : rkF w c (ct w (1800 + c)) = raF w c (ct w (1800 + c)) := rest_eq h.ci h.c h.wk h.l h.k hcr _ (Nat.le_refl _)
  simp only [cm]
  refine ⟨BD, fun hc => absurd hA hc, fun hc => ?_, fun hc => ?_, fun hc => ?_⟩
  · refine ⟨(by first | exact T222 | exact hR.o | exact h.o), 0, _, OC.ok, ?_⟩
    rw [oJ_0, sq_X12_unpack]
    simp only [wI_sJ, wA_sJ, cm, e5, e7, k3, k5, k6, H0, ccn, rkF_sJ, erk]
    refine ⟨⟨h.ri, h.rb⟩, (by intro a; exfalso; grind), (fun _ => ⟨_, rfl, rfl, fun _ => rfl, (h.up.out _).thr 0⟩), (by intro a; exfalso; rw [way] at a; grind), (by intro a; exfalso; rw [way] at a; grind)⟩
  · refine ⟨(by first | exact T222 | exact hR.o | exact h.o), 0, _, OC.ok, ?_⟩
    rw [oJ_0, sq_X12_unpack]
    simp only [wI_sJ, wA_sJ, cm, e5, e7, k3, k5, k6, H0, ccn, rkF_sJ, erk]
    refine ⟨⟨h.ri, h.rb⟩, (by intro a; exfalso; grind), (by intro a; exfalso; rw [way] at a; grind), (fun _ => ⟨_, rfl, rfl, fun _ => rfl, (h.up.out _).thr 0⟩), (by intro a; exfalso; grind)⟩
  · obtain ⟨L, hk, eL⟩ := h.m.1
    refine upK_of (L := L) h hn hcr eL hk ?_ _ 0 (Nat.zero_add _)
    obtain ⟨T222, aA, a1, hri, hrb, h768, hrel⟩ := rl_unpack (x := wI w 195 (1700 + c)) (y := (nI (ct w (1800 + c))).toInt64) h hn hcr eL hk
    refine ⟨(by first | exact T222 | exact hR.o | exact h.o), 0, _, OC.ok, ?_⟩
    rw [oJ_0]
    obtain ⟨V, hV⟩ : ∃ V, V = (sJ (sL (ucW w c (wI w 195 (1700 + c)) L (ct w (1800 + c))) (1800 + c) []) 222 0 (nI (ct w (1800 + c))).toInt64) := ⟨_, rfl⟩
    rw [← hV] at aA a1 hri hrb h768 hrel ⊢
    have erkV := rkF_cg aA (a1 798 (by decide)) (a1 769 (by decide)) c
    rw [sq_X12_unpack]
    simp (disch := decide) only [aA, a1]
    simp only [cm, e5, e7, k3, k5, k6, H0, ccn, erkV, erk]
    refine ⟨⟨hri, hrb⟩, (by intro a; exfalso; grind), (by intro a; exfalso; rw [way] at a; grind), (by intro a; exfalso; grind), (fun _ => ⟨_, rfl, ?_, fun _ => rfl, hrel⟩)⟩
    rw [wI_sA]; exact h768

