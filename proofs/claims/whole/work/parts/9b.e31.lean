/-- the class's worlds while a crate is unpacked -/
def ucW (w : AW) (c : Nat) (x : Int32) (L : Nat) : Nat → AW
  | 0 => w
  | i + 1 => mvW (ucW w c x L i) (elN w (1800 + c) 1000 i) 1 x (L + i)
abbrev tk (w : AW) (c i : Nat) : List Nat := (wL w (1800 + c)).take i
theorem tk_s {w : AW} {c i m : Nat} (hi : i < ct w (1800 + c)) (he : elN w (1800 + c) 1000 i = m) (hw : ∀ q ∈ wL w (1800 + c), isWk w q) : tk w c (i + 1) = tk w c i ++ [1000 + m] := by
  have hi' : i < (wL w (1800 + c)).length := hi
  unfold tk
  rw [List.take_add_one, List.getElem?_eq_getElem hi']
  unfold elN at he
  rw [List.getElem?_eq_getElem hi'] at he
  obtain ⟨j, hj, e⟩ := hw _ (List.getElem_mem hi')
  rw [e] at he ⊢
  have he : 1000 + j - 1000 = m := he
  have : j = m := by omega
  subst this; rfl
theorem ld_lt {n c i : Nat} {w : AW} (h : Rel n w) (hcr : c < ct w 205) (hi : i < ct w (1800 + c)) : elN w (1800 + c) 1000 i < ct w 201 ∧ 1000 + elN w (1800 + c) 1000 i ∉ tk w c i ∧ 1000 + elN w (1800 + c) 1000 i ∈ wL w (1800 + c) := by
  have hi' : i < (wL w (1800 + c)).length := hi
  obtain ⟨j, hj, e⟩ := (ci_Cr h.ci hcr).2.2.2.1 _ (List.getElem_mem hi')
  have ee : elN w (1800 + c) 1000 i = j := by
    unfold elN
    rw [List.getElem?_eq_getElem hi', e]
    show 1000 + j - 1000 = j
    omega
  rw [ee]
  refine ⟨hj, fun y => ?_, by rw [← e]; exact List.getElem_mem hi'⟩
  have nd := (h.d c hcr).1
  rw [← List.take_append_drop (i + 1) (wL w (1800 + c)), show List.take (i + 1) (wL w (1800 + c)) = tk w c (i + 1) from rfl, tk_s hi ee (ci_Cr h.ci hcr).2.2.2.1] at nd
  have nd2 := (List.nodup_append.mp nd).1
  exact (List.nodup_append.mp nd2).2.2 _ y _ (List.mem_singleton.mpr rfl) rfl
theorem mem_tks {m k : Nat} {l : List Nat} : 1000 + k ∈ l ++ [1000 + m] ↔ 1000 + k ∈ l ∨ k = m := by
  rw [List.mem_append, List.mem_singleton]
  constructor
  · rintro (a | a)
    · exact Or.inl a
    · exact Or.inr (by omega)
  · rintro (a | a)
    · exact Or.inl a
    · exact Or.inr (by omega)
def ucF (w : AW) (c : Nat) (x : Int32) (L i : Nat) (u : AW) : Prop := AX [647, 648] [] (fun y => 1100 ≤ y ∧ y < 1140) w u ∧ (∀ y, ¬ (3000 + L ≤ y ∧ y < 3000 + L + i) → wT u y = wT w y) ∧ CIv u ∧ (∀ k, k < 40 → wI u 647 (1000 + k) = if 1000 + k ∈ tk w c i then 1 else wI w 647 (1000 + k)) ∧ (∀ k, k < 40 → wI u 648 (1000 + k) = if 1000 + k ∈ tk w c i then x else wI w 648 (1000 + k)) ∧ (∀ k, k < ct w 201 → (wL u (1100 + k)).map (lnV u) = (wL w (1100 + k)).map (lnV w) ++ (if 1000 + k ∈ tk w c i then [(wI w 716 200, 1, x)] else []))
theorem uc_facts {n c L : Nat} {w : AW} {x : Int32} (h : Rel n w) (hn : n < 512) (hcr : c < ct w 205) (eL : wI w 771 100 = nI L) (hk : L ≤ 4 * n) : ∀ i, i ≤ ct w (1800 + c) → ucF w c x L i (ucW w c x L i)
  | 0, _ => by
    refine ⟨AX.refl, fun _ _ => rfl, h.ci, fun k _ => ?_, fun k _ => ?_, fun k _ => ?_⟩
    · rw [if_neg (by unfold tk; rw [List.take_zero]; exact List.not_mem_nil)]; rfl
    · rw [if_neg (by unfold tk; rw [List.take_zero]; exact List.not_mem_nil)]; rfl
    · rw [if_neg (by unfold tk; rw [List.take_zero]; exact List.not_mem_nil), List.append_nil]; rfl
  | i + 1, hi => by
    have ih := uc_facts (x := x) h hn hcr eL hk i (by omega)
    obtain ⟨hm, hnt, hin⟩ := ld_lt h hcr (i := i) hi
    have hts := tk_s (m := elN w (1800 + c) 1000 i) hi rfl (ci_Cr h.ci hcr).2.2.2.1
    rw [ucW]
    revert ih
    generalize ucW w c x L i = u
    generalize hM : elN w (1800 + c) 1000 i = m at *
    rintro ⟨g, hT, hI, p7, p8, hL⟩
    have b40 := h.ci.bd.1
    have h4 := (ci_Cr h.ci hcr).2.2.2.2
    have f3 : wT w (3000 + (L + i)) = 0 := h.f.2.2.2.2.2.2 (L + i) (by rw [eL, nI_clamp (by omega)]; omega)
    have f3u : wT u (3000 + (L + i)) = 0 := by rw [hT _ (by omega)]; exact f3
    have hcu := g.c1 h.ci (show ¬ (1100 ≤ 201 ∧ 201 < 1140) by omega)
    have h716 : wI u 716 200 = wI w 716 200 := g.I h.ci.2.1.1 (by decide) (by decide)
    have hln : ∀ q, wT u q = 6 → lnV (mvW u m 1 x (L + i)) q = lnV u q := fun q hq => by
      have z : q ≠ 3000 + (L + i) := fun e => by rw [e, f3u] at hq; exact absurd hq (by decide)
      unfold lnV mvW
      simp only [wI_sL, wI_sI, wI_nO, if_neg z, Nat.reduceEqDiff, reduceIte, if_true, if_false]
    have hlt : ct u (1100 + m) < 2190 := by
      have q := congrArg List.length (hL m hm)
      rw [List.length_map, List.length_append, List.length_map, if_neg hnt] at q
      have q : ct u (1100 + m) = ct w (1100 + m) + 0 := q
      have := h.m.2.1 m hm
      omega
    refine ⟨?_, fun y hy => ?_, mvW_ci hI (by rw [hcu]; exact hm) hlt f3u, fun k hk => ?_, fun k hk => ?_, fun k hk => ?_⟩
    · unfold mvW
      refine AX.oL ?_ (Or.inr (by omega))
      refine AX.oI ?_ (Or.inl f3)
      refine AX.oI ?_ (Or.inl f3)
      refine AX.oI ?_ (Or.inl f3)
      refine AX.mO ?_ f3
      refine AX.oI ?_ (Or.inr (by decide))
      refine AX.oI ?_ (Or.inr (by decide))
      exact g
    · unfold mvW
      simp only [wT_sI, wT_sL, wT_nO]
      rw [if_neg (by omega)]
      exact hT y (by omega)
    · rw [hts]
      simp only [mem_tks]
      unfold mvW
      simp only [wI_sL, wI_sI, wI_nO, Nat.reduceEqDiff, reduceIte, if_true, if_false]
      rw [if_neg (by omega)]
      by_cases z : k = m
      · rw [if_pos (by omega), if_pos (Or.inr z)]
      · rw [if_neg (by omega), p7 k hk]
        by_cases y : 1000 + k ∈ tk w c i
        · rw [if_pos y, if_pos (Or.inl y)]
        · rw [if_neg y, if_neg (fun a => a.elim y z)]
    · rw [hts]
      simp only [mem_tks]
      unfold mvW
      simp only [wI_sL, wI_sI, wI_nO, Nat.reduceEqDiff, reduceIte, if_true, if_false]
      rw [if_neg (by omega)]
      by_cases z : k = m
      · rw [if_pos (by omega), if_pos (Or.inr z)]
      · rw [if_neg (by omega), p8 k hk]
        by_cases y : 1000 + k ∈ tk w c i
        · rw [if_pos y, if_pos (Or.inl y)]
        · rw [if_neg y, if_neg (fun a => a.elim y z)]
    · rw [hts]
      simp only [mem_tks]
      have hold : ∀ l : List Nat, (∀ q ∈ l, wT u q = 6) → l.map (lnV (mvW u m 1 x (L + i))) = l.map (lnV u) := fun l hl => List.map_congr_left fun q hq => hln q (hl q hq)
      have h6 := (ci_W hI (show k < ct u 201 by rw [hcu]; exact hk)).2.2.2.1
      by_cases z : k = m
      · subst z
        have e : wL (mvW u k 1 x (L + i)) (1100 + k) = wL u (1100 + k) ++ [3000 + (L + i)] := by
          unfold mvW; rw [wL_sL, if_pos rfl]
        have e2 : lnV (mvW u k 1 x (L + i)) (3000 + (L + i)) = (wI w 716 200, 1, x) := by
          rw [← h716]
          unfold lnV mvW
          simp only [wI_sL, wI_sI, wI_nO, Nat.reduceEqDiff, reduceIte, if_true, if_false]
        rw [e, List.map_append, hold _ h6, hL k hk, if_neg hnt, if_pos (Or.inr rfl), List.append_nil]
        show _ ++ [lnV _ _] = _
        rw [e2]
      · have e : wL (mvW u m 1 x (L + i)) (1100 + k) = wL u (1100 + k) := by
          unfold mvW
          simp only [wL_sL, wL_sI, wL_nO]
          rw [if_neg (by omega), if_neg (by omega)]
        rw [e, hold _ h6, hL k hk]
        by_cases y : 1000 + k ∈ tk w c i
        · rw [if_pos y, if_pos (Or.inl y)]
        · rw [if_neg y, if_neg (fun a => a.elim y z)]
/-- the class unpacks so -/
theorem upK_of {n c L : Nat} {w : AW} {x : Int32} {K : AW → Prop} (h : Rel n w) (hn : n < 512) (hcr : c < ct w 205) (eL : wI w 771 100 = nI L) (hk : L ≤ 4 * n) (hK : K (ucW w c x L (ct w (1800 + c)))) : ∀ d i, i + d = ct w (1800 + c) → upK x K ((wL w (1800 + c)).drop i) (ucW w c x L i)
  | 0, i, hi => by
    have e : i = ct w (1800 + c) := by omega
    subst e
    rw [show List.drop (ct w (1800 + c)) (wL w (1800 + c)) = [] from List.drop_of_length_le (Nat.le_refl _)]
    exact hK
  | d + 1, i, hi => by
    have hi' : i < (wL w (1800 + c)).length := by show i < ct w (1800 + c); omega
    have h4 := (ci_Cr h.ci hcr).2.2.2.2
    rw [List.drop_eq_getElem_cons hi']
    obtain ⟨g, hT, -⟩ := uc_facts (x := x) h hn hcr eL hk i (by omega)
    refine ⟨L + i, ?_, ?_⟩
    · rw [hT _ (by omega)]
      exact h.f.2.2.2.2.2.2 (L + i) (by rw [eL, nI_clamp (by omega)]; omega)
    · have q := upK_of h hn hcr eL hk hK d (i + 1) (by omega)
      rw [ucW] at q
      unfold elN at q
      rw [List.getElem?_eq_getElem hi'] at q
      exact q
def ugF (w : AW) (c : Nat) (x : Int32) (L i : Nat) (V v : AW) : Prop := (wI v 771 100 = nI (L + i) ∧ wI v 769 100 = wI w 716 200 ∧ wI v 768 100 = 0) ∧ (wT v = wT V ∧ wR v = wR V ∧ wN v = wN V ∧ wL v = wL V ∧ wP v = wP V ∧ ∀ k y, k ≠ 771 → k ≠ 768 → wI v k y = wI V k y) ∧ (∀ t, t ∉ [110, 111, 113, 114, 115, 116] → wA v t = wA V t) ∧ (∀ k, k < 40 → wA v 110 k = if 1000 + k ∈ tk w c i then 1 else wA w 110 k) ∧ (∀ k, k < 40 → wA v 111 k = if 1000 + k ∈ tk w c i then x else wA w 111 k) ∧ (∀ k, k < 40 → refL (wA v 113) (wA v 114) (wA v 115) (wA v 116) (nI k) (L + i) = refL (wA w 113) (wA w 114) (wA w 115) (wA w 116) (nI k) L ++ (if 1000 + k ∈ tk w c i then [(wI w 716 200, 1, x)] else [])) ∧ ∀ j, j < L + i → ∃ m, m < ct w 201 ∧ wA v 113 j = nI m
theorem ug_facts {n c L : Nat} {w V : AW} {x : Int32} (h : Rel n w) (hn : n < 512) (hcr : c < ct w 205) (eL : wI w 771 100 = nI L) (hk : L ≤ 4 * n) (aA : ∀ t, t ∈ rfI → wA V t = wA w t) (a1 : ∀ k, k ∈ [769, 770, 771, 787, 798, 809] → wI V k 100 = wI w k 100) : ∀ i, i ≤ ct w (1800 + c) → ugF w c x L i V (ugW V c x i)
  | 0, _ => by
    have z : ∀ k, ¬ 1000 + k ∈ tk w c 0 := fun k => by unfold tk; rw [List.take_zero]; exact List.not_mem_nil
    refine ⟨⟨?_, ?_, rfl⟩, ⟨rfl, rfl, rfl, rfl, rfl, fun k y h1 h2 => ?_⟩, fun t ht => rfl, fun k _ => ?_, fun k _ => ?_, fun k _ => ?_, fun j hj => ?_⟩
    · show wI (sI V 768 100 0) 771 100 = _
      rw [wI_sI, if_neg (by decide), a1 771 (by decide)]; exact eL
    · show wI (sI V 768 100 0) 769 100 = _
      rw [wI_sI, if_neg (by decide), a1 769 (by decide)]; exact h.c.2.2.2.2.2.1
    · show wI (sI V 768 100 0) k y = _
      rw [wI_sI, if_neg h2]
    · rw [if_neg (z k)]; show wA V 110 k = _; rw [aA 110 (by decide)]
    · rw [if_neg (z k)]; show wA V 111 k = _; rw [aA 111 (by decide)]
    · rw [if_neg (z k), List.append_nil]
      show refL (wA V 113) (wA V 114) (wA V 115) (wA V 116) _ _ = _
      rw [aA 113 (by decide), aA 114 (by decide), aA 115 (by decide), aA 116 (by decide)]; rfl
    · have q := h.n.2 j (by rw [eL, nI_clamp (by omega)]; exact hj)
      show ∃ m, m < ct w 201 ∧ wA V 113 j = nI m
      rw [aA 113 (by decide)]; exact q
  | i + 1, hi => by
    have ih := ug_facts (x := x) h hn hcr eL hk aA a1 i (by omega)
    obtain ⟨hm, hnt, hin⟩ := ld_lt h hcr (i := i) hi
    have hts := tk_s (m := elN w (1800 + c) 1000 i) hi rfl (ci_Cr h.ci hcr).2.2.2.1
    have h4 := (ci_Cr h.ci hcr).2.2.2.2
    have e146 : wA V 146 (4 * c + i) = nI (elN w (1800 + c) 1000 i) := by
      rw [aA 146 (by decide)]; exact (h.k c hcr).2.2.2.1 i hi
    have b40 := h.ci.bd.1
    rw [ugW, e146]
    revert ih
    generalize ugW V c x i = v
    generalize hM : elN w (1800 + c) 1000 i = m at *
    rintro ⟨⟨q1, q2, q3⟩, ⟨t1, t2, t3, t4, t6, t5⟩, r0, r110, r111, rl, rj⟩
    have cm : (nI m).toNatClampNeg = m := nI_clamp (by omega)
    have cL : (nI (L + i)).toNatClampNeg = L + i := nI_clamp (by omega)
    have A : ∀ t j, wA (goW v (nI m) 1 x) t j = if t = 116 then (if j = L + i then x else wA v t j) else if t = 115 then (if j = L + i then 1 else wA v t j) else if t = 114 then (if j = L + i then wI w 716 200 else wA v t j) else if t = 113 then (if j = L + i then nI m else wA v t j) else if t = 111 then (if j = m then x else wA v t j) else if t = 110 then (if j = m then 1 else wA v t j) else wA v t j := fun t j => by
      unfold goW
      simp only [wA_sI, wA_sA, wI_sA, q1, q2, cm, cL]
      by_cases z1 : t = 116
      · subst z1; simp only [Nat.reduceEqDiff, reduceIte, if_true, if_false]
      by_cases z2 : t = 115
      · subst z2; simp only [Nat.reduceEqDiff, reduceIte, if_true, if_false]
      by_cases z3 : t = 114
      · subst z3; simp only [Nat.reduceEqDiff, reduceIte, if_true, if_false]
      by_cases z4 : t = 113
      · subst z4; simp only [Nat.reduceEqDiff, reduceIte, if_true, if_false]
      by_cases z5 : t = 111
      · subst z5; simp only [Nat.reduceEqDiff, reduceIte, if_true, if_false]
      simp only [if_neg z1, if_neg z2, if_neg z3, if_neg z4, if_neg z5]
    refine ⟨⟨?_, ?_, ?_⟩, ⟨t1, t2, t3, t4, t6, fun k y h1 h2 => ?_⟩, fun t ht => ?_, fun k hk => ?_, fun k hk => ?_, fun k hk => ?_, fun j hj => ?_⟩
    · unfold goW
      simp only [wI_sI, wI_sA, q1, Nat.reduceEqDiff, reduceIte, if_true, if_false]
      exact nI_succ1 _
    · unfold goW
      simp only [wI_sI, wI_sA, Nat.reduceEqDiff, reduceIte, if_true, if_false]
      exact q2
    · unfold goW
      simp only [wI_sI, wI_sA, Nat.reduceEqDiff, reduceIte, if_true, if_false]
      exact q3
    · unfold goW
      simp only [wI_sI, wI_sA]
      rw [if_neg h1]; exact t5 k y h1 h2
    · rw [← r0 t ht]
      simp only [List.mem_cons, List.not_mem_nil, or_false, not_or] at ht
      funext j
      rw [A, if_neg ht.2.2.2.2.2, if_neg ht.2.2.2.2.1, if_neg ht.2.2.2.1, if_neg ht.2.2.1, if_neg ht.2.1, if_neg ht.1]
    · rw [hts]
      simp only [mem_tks]
      rw [A]
      simp only [Nat.reduceEqDiff, reduceIte, if_true, if_false]
      by_cases z : k = m
      · rw [if_pos z, if_pos (Or.inr z)]
      · rw [if_neg z, r110 k hk]
        by_cases y : 1000 + k ∈ tk w c i
        · rw [if_pos y, if_pos (Or.inl y)]
        · rw [if_neg y, if_neg (fun a => a.elim y z)]
    · rw [hts]
      simp only [mem_tks]
      rw [A]
      simp only [Nat.reduceEqDiff, reduceIte, if_true, if_false]
      by_cases z : k = m
      · rw [if_pos z, if_pos (Or.inr z)]
      · rw [if_neg z, r111 k hk]
        by_cases y : 1000 + k ∈ tk w c i
        · rw [if_pos y, if_pos (Or.inl y)]
        · rw [if_neg y, if_neg (fun a => a.elim y z)]
    · rw [hts]
      simp only [mem_tks]
      have cg : refL (wA (goW v (nI m) 1 x) 113) (wA (goW v (nI m) 1 x) 114) (wA (goW v (nI m) 1 x) 115) (wA (goW v (nI m) 1 x) 116) (nI k) (L + i) = refL (wA v 113) (wA v 114) (wA v 115) (wA v 116) (nI k) (L + i) := refL_cg _ _ (fun j hj => by
        rw [A, A, A, A]
        simp only [Nat.reduceEqDiff, reduceIte, if_true, if_false, if_neg (show ¬ j = L + i by omega)]
        exact ⟨trivial, trivial, trivial, trivial⟩)
      rw [show L + (i + 1) = (L + i) + 1 by omega, refL, cg, rl k hk, A, A, A, A]
      simp only [Nat.reduceEqDiff, reduceIte, if_true, if_false]
      by_cases z : k = m
      · subst z
        rw [if_pos rfl, if_neg hnt, if_pos (Or.inr rfl), List.append_nil]
      · rw [if_neg (fun y => z ((nI_eq (by omega) (by omega)).mp y).symm)]
        by_cases y : 1000 + k ∈ tk w c i
        · rw [if_pos y, if_pos (Or.inl y)]
        · rw [if_neg y, if_neg (fun a => a.elim y z)]
    · rw [A]
      simp only [Nat.reduceEqDiff, reduceIte, if_true, if_false]
      by_cases z : j = L + i
      · rw [if_pos z]; exact ⟨m, hm, rfl⟩
      · rw [if_neg z]; exact rj j (by omega)

