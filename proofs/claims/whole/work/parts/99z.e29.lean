theorem ref_cg {V w : AW} (aA : ∀ t, t ∈ rfI → wA V t = wA w t) (h1 : wI V 798 100 = wI w 798 100) (h2 : wI V 769 100 = wI w 769 100) : (∀ a d, rForce V a d = rForce w a d) ∧ (∀ k c d, rBars V k c d = rBars w k c d) ∧ (∀ a b, rApart V a b = rApart w a b) := by
  have e : ∀ a d, rForce V a d = rForce w a d := fun a d => by
    unfold rForce
    simp (disch := decide) only [aA, h1]
  have e2 : ∀ a b, rNames V a b = rNames w a b := fun a b => by
    unfold rNames
    simp (disch := decide) only [aA, h2, e]
  refine ⟨e, fun k c d => ?_, fun a b => ?_⟩
  · unfold rBars
    simp (disch := decide) only [aA, e]
  · unfold rApart
    rw [e2, e2]
theorem rBars_sJ (w : AW) (t i : Nat) (v : Int64) (k c d : Int32) : rBars (sJ w t i v) k c d = rBars w k c d := rfl
theorem rApart_sJ (w : AW) (t i : Nat) (v : Int64) (a b : Int32) : rApart (sJ w t i v) a b = rApart w a b := rfl
theorem hang_pre {n : Nat} {w : AW} (h : Rel n w) : ∀ m j : Nat, m < 40 → 0 ≤ nI m ∧ nI m < nI (ct w 201) → j < 20 → wA w 110 m = 1 → ∃ H, H < 40 ∧ wA w 128 j = nI H := fun m j hm a hj hp => by
  have bd := h.ci.bd
  have hm2 : m < ct w 201 := (nI_ltI (by omega) (by omega)).mp a.2
  have e := (h.wk m hm2).2.2.2.2.2.1
  rw [hp] at e
  rcases Nat.lt_or_ge j (ct w 202) with z | z
  · refine ⟨ct w (1300 + j), (hung_lt h hm2 z (by rw [← e]; decide)).1, (h.r j z).2.2.2.2.2.2.1⟩
  · exact ⟨0, by decide, (h.v.1 j z hj).1⟩

theorem pr_hang {n : Nat} {w : AW} (h : Rel n w) (hn : n < 512) (p0 p1 : Int32) : sp_X11_hang [.ref 200, .int p0, .int p1] w (PRt ["java/util/NoSuchElementException"] sp_X12_hang [.int p0, .int p1] n) := by
  have b40 := h.ci.bd
  have e0 : wI w 770 100 = nI (ct w 201) := h.c.1
  have e2 : wI w 787 100 = nI (ct w 202) := h.c.2.1
  have e5 : wI w 809 100 = nI (ct w 205) := h.c.2.2.2.2.1
  have e7 : wI w 769 100 = wI w 716 200 := h.c.2.2.2.2.2.1
  rw [sq_X11_hang]
  by_cases hA : ((0 ≤ p0 ∧ p0 < nI (ct w 201)) ∧ (0 ≤ p1 ∧ p1 < nI (ct w 202)))
  rotate_left
  · refine ⟨⟨h.ci, fun k hk => by have := h.m.2.1 k hk; omega, fun k hk => by have := hung_le h hk; omega⟩, fun hc => ?_, fun hc => absurd hc.1 hA, fun hc => absurd hc.1 hA, fun hc => absurd hc.1 hA, fun hc => absurd hc.1 hA, fun hc => absurd hc.1 hA⟩
    refine ⟨(by first | exact T222 | exact hR.o | exact h.o), 1, 0, OC.ex (by decide) (by decide) rfl, ?_⟩
    rw [oJ_1, sq_X12_hang, e0, e2]
    exact ⟨⟨h.ri, h.rb, hang_pre h⟩, (fun _ => ⟨0, rfl, rfl, fun z => absurd z (by decide), h.up.thr 1⟩), fun a => absurd a.1 hA, fun a => absurd a.1 hA, fun a => absurd a.1 hA, fun a => absurd a.1 hA, fun a => absurd a.1 hA⟩
  obtain ⟨m, hm, rfl⟩ := in_ct (n := ct w 201) (by omega) (Int32.not_lt.mpr hA.1.1) (Int32.not_le.mpr hA.1.2)
  obtain ⟨c, hcr, rfl⟩ := in_ct (n := ct w 202) (by omega) (Int32.not_lt.mpr hA.2.1) (Int32.not_le.mpr hA.2.2)
  have cm : (nI m).toNatClampNeg = m := nI_clamp (by omega)
  have cc : (nI c).toNatClampNeg = c := nI_clamp (by omega)
  obtain ⟨w1, w2, w3, w4, w5, w6, w7, w8⟩ := h.wk m hm
  obtain ⟨k1, k2, k3, k4, k5, k6, k7, k8⟩ := h.r c hcr
  have hl40 := hung_le h hcr
  have eb : ∀ x d, rBars w (nI m) x d = cBars w m x d := fun x d => bars_eq h.ci h.c h.wk h.l hm x d
  have ccn : (nI (ct w (1300 + c))).toNatClampNeg = ct w (1300 + c) := nI_clamp (by omega)
  have hel : ∀ i, i < ct w (1300 + c) → elN w (1300 + c) 1000 i < ct w 201 := fun i hi => by
    have hi' : i < (wL w (1300 + c)).length := hi
    have q := (ci_R h.ci hcr).2.2.2.1 ((wL w (1300 + c))[i]) (List.getElem_mem hi')
    obtain ⟨j, hj, e⟩ := q
    unfold elN
    rw [List.getElem?_eq_getElem hi', e]
    show 1000 + j - 1000 < _
    omega
  have elen : hgF (fun i => wA w 106 (wA w 129 (40 * c + i)).toNatClampNeg) (wI w 642 (1000 + m)) (ct w (1300 + c)) = taF (fun i => wI w 642 (1000 + elN w (1300 + c) 1000 i)) (ct w (1300 + c)) + wI w 642 (1000 + m) := len_eq _ _ (fun i hi => by
    have hj := hel i hi
    rw [k8 i hi, nI_clamp (by omega)]
    exact (h.wk _ hj).2.1)
  have eany : anyF (fun i => rApart w (nI m) (wA w 129 (40 * c + i))) (ct w (1300 + c)) 0 = anyF (fun i => cApart w m (elN w (1300 + c) 1000 i)) (ct w (1300 + c)) 0 := anyF_congr _ _ (fun i _ hi => by
    have hj := hel i (by omega)
    rw [k8 i (by omega)]
    exact apart_eq h.ci h.c h.wk h.l hm hj)
  simp only [cm, cc]
  refine ⟨⟨h.ci, fun k hk => by have := h.m.2.1 k hk; omega, fun k hk => by have := hung_le h hk; omega⟩, fun hc => absurd hA hc, fun hc => ?_, fun hc => ?_, fun hc => ?_, fun hc => ?_, fun hc => ?_⟩
  · refine ⟨(by first | exact T222 | exact hR.o | exact h.o), 0, _, OC.ok, ?_⟩
    rw [oJ_0, sq_X12_hang]
    simp only [wI_sJ, wA_sJ, rBars_sJ, rApart_sJ, cm, cc, e0, e2, e7, w2, w6, w7, k1, k2, k7, ccn, eb, elen, eany]
    exact ⟨⟨h.ri, h.rb, hang_pre h⟩, (by intro a; exfalso; grind), (fun _ => ⟨_, rfl, rfl, fun _ => rfl, (h.up.out _).thr 0⟩), (by intro a; exfalso; grind), (by intro a; exfalso; grind), (by intro a; exfalso; grind), (by intro a; exfalso; grind)⟩
  · refine ⟨(by first | exact T222 | exact hR.o | exact h.o), 0, _, OC.ok, ?_⟩
    rw [oJ_0, sq_X12_hang]
    simp only [wI_sJ, wA_sJ, rBars_sJ, rApart_sJ, cm, cc, e0, e2, e7, w2, w6, w7, k1, k2, k7, ccn, eb, elen, eany]
    exact ⟨⟨h.ri, h.rb, hang_pre h⟩, (by intro a; exfalso; grind), (by intro a; exfalso; grind), (fun _ => ⟨_, rfl, rfl, fun _ => rfl, (h.up.out _).thr 0⟩), (by intro a; exfalso; grind), (by intro a; exfalso; grind), (by intro a; exfalso; grind)⟩
  · refine ⟨(by first | exact T222 | exact hR.o | exact h.o), 0, _, OC.ok, ?_⟩
    rw [oJ_0, sq_X12_hang]
    simp only [wI_sJ, wA_sJ, rBars_sJ, rApart_sJ, cm, cc, e0, e2, e7, w2, w6, w7, k1, k2, k7, ccn, eb, elen, eany]
    exact ⟨⟨h.ri, h.rb, hang_pre h⟩, (by intro a; exfalso; grind), (by intro a; exfalso; grind), (by intro a; exfalso; grind), (fun _ => ⟨_, rfl, rfl, fun _ => rfl, (h.up.out _).thr 0⟩), (by intro a; exfalso; grind), (by intro a; exfalso; grind)⟩
  · refine ⟨(by first | exact T222 | exact hR.o | exact h.o), 0, _, OC.ok, ?_⟩
    rw [oJ_0, sq_X12_hang]
    simp only [wI_sJ, wA_sJ, rBars_sJ, rApart_sJ, cm, cc, e0, e2, e7, w2, w6, w7, k1, k2, k7, ccn, eb, elen, eany]
    exact ⟨⟨h.ri, h.rb, hang_pre h⟩, (by intro a; exfalso; grind), (by intro a; exfalso; grind), (by intro a; exfalso; grind), (by intro a; exfalso; grind), (fun _ => ⟨_, rfl, rfl, fun _ => rfl, (h.up.out _).thr 0⟩), (by intro a; exfalso; grind)⟩
  · obtain ⟨L, hk, eL⟩ := h.m.1
    have f3 : wT w (3000 + L) = 0 := h.f.2.2.2.2.2.2 L (by rw [eL, nI_clamp (by omega)]; exact Nat.le_refl _)
    refine ⟨L, f3, ?_⟩
    have g : AX [647, 648, 650] [] (fun y => y = 1100 + m ∨ y = 1300 + c) w (sJ (mvW (sR (sL w (1300 + c) (wL w (1300 + c) ++ [1000 + m])) 650 (1000 + m) (some (1200 + c))) m 3 (nI c) L) 222 0 (nI (ct w (1300 + c) + 1)).toInt64) := by
      unfold mvW
      refine AX.oJ ?_
      refine AX.oL ?_ (Or.inr (Or.inl rfl))
      refine AX.oI ?_ (Or.inl f3)
      refine AX.oI ?_ (Or.inl f3)
      refine AX.oI ?_ (Or.inl f3)
      refine AX.mO ?_ f3
      refine AX.oI ?_ (Or.inr (by decide))
      refine AX.oI ?_ (Or.inr (by decide))
      refine AX.oR ?_ (Or.inr (by decide))
      refine AX.oL ?_ (Or.inr (Or.inr rfl))
      exact AX.refl
    have T222 := g.xo h.o
    refine ⟨(by first | exact T222 | exact hR.o | exact h.o), 0, _, OC.ok, ?_⟩
    rw [oJ_0]
    obtain ⟨V, hV⟩ : ∃ V, V = sJ (mvW (sR (sL w (1300 + c) (wL w (1300 + c) ++ [1000 + m])) 650 (1000 + m) (some (1200 + c))) m 3 (nI c) L) 222 0 (nI (ct w (1300 + c) + 1)).toInt64 := ⟨_, rfl⟩
    rw [← hV] at g ⊢
    have aA : ∀ t, t ∈ rfI → wA V t = wA w t := g.rows h.ri (fun _ z => z) (fun _ _ => List.not_mem_nil)
    have a1 : ∀ k, k ∈ [769, 770, 771, 787, 798, 809] → wI V k 100 = wI w k 100 := g.i1 h.ri (by decide)
    have hri : RI V := g.xri h.ri (by decide)
    have hrb : RB V := g.xrb h.ri h.rb (by decide) (by decide)
    rw [sq_X12_hang]
    obtain ⟨f1, f2, f4⟩ := ref_cg aA (a1 798 (by decide)) (a1 769 (by decide))
    unfold goW
    simp only [wI_sA, wI_sI, Nat.reduceEqDiff, reduceIte, if_true, if_false]
    simp (disch := decide) only [aA, a1, f2, f4]
    simp only [aA, a1, rBars_sJ, rApart_sJ, cm, cc, e0, e2, e7, w2, w6, w7, k1, k2, k7, ccn, eb, elen, eany]
    refine ⟨⟨hri, hrb, hang_pre h⟩, (by intro a; exfalso; grind), (by intro a; exfalso; grind), (by intro a; exfalso; grind), (by intro a; exfalso; grind), (by intro a; exfalso; grind), (fun _ => ⟨_, rfl, rfl, fun _ => nI_succ1 _, ?_⟩)⟩
    rw [hV, eL, nI_succ1, nI_succ1, nI_clamp (by omega)]
    exact rl_hang h hn hm hcr hk eL hc.2.1.1

