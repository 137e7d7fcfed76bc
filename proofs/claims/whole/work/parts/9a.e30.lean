theorem pr_down {n : Nat} {w : AW} (h : Rel n w) (hn : n < 512) (p0 : Int32) : sp_X11_down [.ref 200, .int p0] w (PRt ["java/util/NoSuchElementException"] sp_X12_down [.int p0] n) := by
  have bd := h.ci.bd
  have e0 : wI w 770 100 = nI (ct w 201) := h.c.1
  have e7 : wI w 769 100 = wI w 716 200 := h.c.2.2.2.2.2.1
  have BD : CIv w ∧ (∀ n, n < ct w 201 → ct w (1100 + n) < 1024) := ⟨h.ci, fun k hk => by have := h.m.2.1 k hk; omega⟩
  rw [sq_X11_down]
  by_cases hA : (0 ≤ p0 ∧ p0 < nI (ct w 201))
  rotate_left
  · refine ⟨BD, fun hc => ?_, fun hc => absurd hc.1 hA, fun r hc => absurd hc.1 hA⟩
    refine ⟨(by first | exact T222 | exact hR.o | exact h.o), 1, 0, OC.ex (by decide) (by decide) rfl, ?_⟩
    rw [oJ_1, sq_X12_down, e0]
    exact ⟨⟨h.ri, h.rb⟩, (fun _ => ⟨0, rfl, rfl, fun z => absurd z (by decide), h.up.thr 1⟩), fun a => absurd a.1 hA, fun a => absurd a.1 hA⟩
  obtain ⟨m, hm, rfl⟩ := in_ct (n := ct w 201) (by omega) (Int32.not_lt.mpr hA.1) (Int32.not_le.mpr hA.2)
  have cm : (nI m).toNatClampNeg = m := nI_clamp (by omega)
  obtain ⟨w1, w2, w3, w4, w5, w6, w7, w8⟩ := h.wk m hm
  simp only [cm]
  refine ⟨BD, fun hc => absurd hA hc, fun hc => ?_, fun r hc => ?_⟩
  · have hp : ¬ wI w 647 (1000 + m) = 3 := by
      rcases h.g.2 m hm with ⟨r', hr', a, b, d⟩ | ⟨a, b⟩
      · rw [hc.2] at a; cases a
      · exact b
    refine ⟨(by first | exact T222 | exact hR.o | exact h.o), 0, _, OC.ok, ?_⟩
    rw [oJ_0, sq_X12_down]
    simp only [wI_sJ, wA_sJ, cm, e0, w6]
    exact ⟨⟨h.ri, h.rb⟩, fun a => absurd hA a, (fun _ => ⟨_, rfl, rfl, fun _ => rfl, (h.up.out _).thr 0⟩), fun a => absurd a.2 hp⟩
  · obtain ⟨-, hso⟩ := hc
    obtain ⟨hr, hp3, hw8⟩ : r < ct w 202 ∧ wI w 647 (1000 + m) = 3 ∧ wI w 648 (1000 + m) = nI r := by
      rcases h.g.2 m hm with ⟨r', hr', a, b, d⟩ | ⟨a, b⟩
      · rw [hso] at a
        have e := Option.some.inj a
        have e2 : r = r' := by omega
        subst e2
        exact ⟨hr', b, d⟩
      · rw [hso] at a; cases a
    have hmem := ((h.g.1 r hr).2 m hm).mpr hso
    obtain ⟨l1, l2, hl, hl1⟩ := List.eq_append_cons_of_mem hmem
    have ele : ((wL w (1300 + r)).erase (1000 + m)).length = l1.length + l2.length := by
      rw [hl, List.erase_append_right _ hl1, List.erase_cons_head, List.length_append]
    have hct : ct w (1300 + r) = l1.length + l2.length + 1 := by unfold ct; rw [hl, List.length_append]; rfl
    have h40 := hung_le h hr
    obtain ⟨q1, q2, q3, q4, q5, q6, q7, q8⟩ := h.r r hr
    have el1 : ∀ i, i < l1.length → wA w 129 (40 * r + i) = nI (((l1[i]?).getD 1000) - 1000) := fun i hi => by
      rw [q8 i (by omega)]
      unfold elN
      rw [hl, List.getElem?_append_left hi]
    have el0 : wA w 129 (40 * r + l1.length) = nI m := by
      rw [q8 _ (by omega)]
      unfold elN
      rw [hl, List.getElem?_append_right (Nat.le_refl _), Nat.sub_self]
      show nI (1000 + m - 1000) = nI m
      rw [Nat.add_sub_cancel_left]
    have eln : ∀ i, i < l1.length → ¬ wA w 129 (40 * r + i) = nI m := fun i hi z => by
      rw [el1 i hi, List.getElem?_eq_getElem hi] at z
      have hme : l1[i] ∈ wL w (1300 + r) := by rw [hl]; exact List.mem_append_left _ (List.getElem_mem hi)
      obtain ⟨j, hj, e⟩ := (ci_R h.ci hr).2.2.2.1 _ hme
      rw [e] at z
      have z : nI (1000 + j - 1000) = nI m := z
      have := (nI_eq (by omega) (by omega)).mp z
      have e3 : j = m := by omega
      exact hl1 (by rw [← e3, ← e]; exact List.getElem_mem hi)
    obtain ⟨L, hk, eL⟩ := h.m.1
    have f3 : wT w (3000 + L) = 0 := h.f.2.2.2.2.2.2 L (by rw [eL, nI_clamp (by omega)]; exact Nat.le_refl _)
    refine ⟨L, f3, ?_⟩
    have g : AX [647, 648, 650] [] (fun y => y = 1100 + m ∨ y = 1300 + r) w (sJ (mvW (sR (sL w (1300 + r) ((wL w (1300 + r)).erase (1000 + m))) 650 (1000 + m) none) m 1 (wI w 512 (1200 + r)) L) 222 0 (nI ((wL w (1300 + r)).erase (1000 + m)).length).toInt64) := by
      unfold mvW
      refine AX.oJ ?_
      refine AX.oL ?_ (Or.inr (Or.inl rfl))
      refine AX.oI ?_ (Or.inl f3)
      refine AX.oI ?_ (Or.inl f3)
      refine AX.oI ?_ (Or.inl f3)
      refine AX.mO ?_ f3
      refine AX.oI ?_ (Or.inr (by decide))
      refine AX.oI ?_ (Or.inr (by decide))
      refine AX.oR ?_ (Or.inr (by decide))
      refine AX.oL ?_ (Or.inr (Or.inr rfl))
      exact AX.refl
    have T222 := g.xo h.o
    refine ⟨(by first | exact T222 | exact hR.o | exact h.o), 0, _, OC.ok, ?_⟩
    rw [oJ_0]
    obtain ⟨V, hV⟩ : ∃ V, V = sJ (mvW (sR (sL w (1300 + r) ((wL w (1300 + r)).erase (1000 + m))) 650 (1000 + m) none) m 1 (wI w 512 (1200 + r)) L) 222 0 (nI ((wL w (1300 + r)).erase (1000 + m)).length).toInt64 := ⟨_, rfl⟩
    rw [← hV] at g ⊢
    have aA : ∀ t, t ∈ rfI → wA V t = wA w t := g.rows h.ri (fun _ z => z) (fun _ _ => List.not_mem_nil)
    have a1 : ∀ k, k ∈ [769, 770, 771, 787, 798, 809] → wI V k 100 = wI w k 100 := g.i1 h.ri (by decide)
    have hri : RI V := g.xri h.ri (by decide)
    have hrb : RB V := g.xrb h.ri h.rb (by decide) (by decide)
    rw [sq_X12_down]
    unfold goW DN
    simp only [wI_shW, wI_sA, wI_sI, Nat.reduceEqDiff, reduceIte, if_true, if_false]
    simp (disch := decide) only [aA, a1]
    simp only [cm, e0, e7, w6]
    refine ⟨⟨hri, hrb⟩, fun a => absurd hA a, fun a => absurd hp3 a.2, fun _ => ⟨r, l1.length + l2.length, l1.length, ⟨by omega, by omega, by omega, by rw [w7]; exact hw8, by rw [q7, hct], el0, eln⟩, _, rfl, ?_, fun _ => ?_, ?_⟩⟩
    · rfl
    · rw [ele]
    · rw [hV, eL, nI_succ1, nI_clamp (by omega), q1, Nat.add_sub_cancel_left]
      exact rl_down h hn hm hr hk eL hso l1 l2 hl hl1

