theorem pr_pack {n : Nat} {w : AW} (h : Rel n w) (hn : n < 512) (p0 p1 : Int32) : sp_X11_pack [.ref 200, .int p0, .int p1] w (PRt ["java/util/NoSuchElementException"] sp_X12_pack [.int p0, .int p1] n) := by
  have b40 := h.ci.bd
  have e0 : wI w 770 100 = nI (ct w 201) := h.c.1
  have e2 : wI w 787 100 = nI (ct w 202) := h.c.2.1
  have e5 : wI w 809 100 = nI (ct w 205) := h.c.2.2.2.2.1
  have e7 : wI w 769 100 = wI w 716 200 := h.c.2.2.2.2.2.1
  rw [sq_X11_pack]
  by_cases hA : ((0 ≤ p0 ∧ p0 < nI (ct w 201)) ∧ (0 ≤ p1 ∧ p1 < nI (ct w 205)))
  rotate_left
  · refine ⟨⟨h.ci, fun k hk => by have := h.m.2.1 k hk; omega⟩, fun hc => ?_, fun hc => absurd hc.1 hA, fun hc => absurd hc.1 hA, fun hc => absurd hc.1 hA, fun hc => absurd hc.1 hA, fun hc => absurd hc.1 hA⟩
    refine ⟨(by first | exact T222 | exact hR.o | exact h.o), 1, 0, OC.ex (by decide) (by decide) rfl, ?_⟩
    rw [oJ_1, sq_X12_pack, e0, e5]
    exact ⟨⟨h.ri, h.rb⟩, (fun _ => ⟨0, rfl, rfl, fun z => absurd z (by decide), h.up.thr 1⟩), fun a => absurd a.1 hA, fun a => absurd a.1 hA, fun a => absurd a.1 hA, fun a => absurd a.1 hA, fun a => absurd a.1 hA⟩
  obtain ⟨m, hm, rfl⟩ := in_ct (n := ct w 201) (by omega) (Int32.not_lt.mpr hA.1.1) (Int32.not_le.mpr hA.1.2)
  obtain ⟨c, hcr, rfl⟩ := in_ct (n := ct w 205) (by omega) (Int32.not_lt.mpr hA.2.1) (Int32.not_le.mpr hA.2.2)
  have cm : (nI m).toNatClampNeg = m := nI_clamp (by omega)
  have cc : (nI c).toNatClampNeg = c := nI_clamp (by omega)
  obtain ⟨w1, w2, w3, w4, w5, w6, w7, w8⟩ := h.wk m hm
  obtain ⟨k1, k2, k3, k4, k5, k6, k7⟩ := h.k c hcr
  have way := propext (way_eq h hcr)
  have hc4 := (ci_Cr h.ci hcr).2.2.2.2
  have H4 : (nI (ct w (1800 + c)) = 4) = ¬ ct w (1800 + c) < 4 := propext ⟨fun z => by have := (nI_eq (b := 4) (by omega) (by decide)).mp z; omega, fun z => by rw [show ct w (1800 + c) = 4 by omega]; rfl⟩
  simp only [cm, cc]
  refine ⟨⟨h.ci, fun k hk => by have := h.m.2.1 k hk; omega⟩, fun hc => absurd hA hc, fun hc => ?_, fun hc => ?_, fun hc => ?_, fun hc => ?_, fun hc => ?_⟩
  · refine ⟨(by first | exact T222 | exact hR.o | exact h.o), 0, _, OC.ok, ?_⟩
    rw [oJ_0, sq_X12_pack]
    simp only [wI_sJ, wA_sJ, cm, cc, e0, e5, e7, w2, w3, w6, w7, k1, k2, k3, k5, way, H4]
    exact ⟨⟨h.ri, h.rb⟩, (by intro a; exfalso; grind), (fun _ => ⟨_, rfl, rfl, fun _ => rfl, (h.up.out _).thr 0⟩), (by intro a; exfalso; grind), (by intro a; exfalso; grind), (by intro a; exfalso; grind), (by intro a; exfalso; grind)⟩
  · refine ⟨(by first | exact T222 | exact hR.o | exact h.o), 0, _, OC.ok, ?_⟩
    rw [oJ_0, sq_X12_pack]
    simp only [wI_sJ, wA_sJ, cm, cc, e0, e5, e7, w2, w3, w6, w7, k1, k2, k3, k5, way, H4]
    exact ⟨⟨h.ri, h.rb⟩, (by intro a; exfalso; grind), (by intro a; exfalso; grind), (fun _ => ⟨_, rfl, rfl, fun _ => rfl, (h.up.out _).thr 0⟩), (by intro a; exfalso; grind), (by intro a; exfalso; grind), (by intro a; exfalso; grind)⟩
  · refine ⟨(by first | exact T222 | exact hR.o | exact h.o), 0, _, OC.ok, ?_⟩
    rw [oJ_0, sq_X12_pack]
    simp only [wI_sJ, wA_sJ, cm, cc, e0, e5, e7, w2, w3, w6, w7, k1, k2, k3, k5, way, H4]
    exact ⟨⟨h.ri, h.rb⟩, (by intro a; exfalso; grind), (by intro a; exfalso; grind), (by intro a; exfalso; grind), (fun _ => ⟨_, rfl, rfl, fun _ => rfl, (h.up.out _).thr 0⟩), (by intro a; exfalso; grind), (by intro a; exfalso; grind)⟩
  · refine ⟨(by first | exact T222 | exact hR.o | exact h.o), 0, _, OC.ok, ?_⟩
    rw [oJ_0, sq_X12_pack]
    simp only [wI_sJ, wA_sJ, cm, cc, e0, e5, e7, w2, w3, w6, w7, k1, k2, k3, k5, way, H4]
    exact ⟨⟨h.ri, h.rb⟩, (by intro a; exfalso; grind), (by intro a; exfalso; grind), (by intro a; exfalso; grind), (by intro a; exfalso; grind), (fun _ => ⟨_, rfl, rfl, fun _ => rfl, (h.up.out _).thr 0⟩), (by intro a; exfalso; grind)⟩
  · obtain ⟨L, hk, eL⟩ := h.m.1
    have f3 : wT w (3000 + L) = 0 := h.f.2.2.2.2.2.2 L (by rw [eL, nI_clamp (by omega)]; exact Nat.le_refl _)
    refine ⟨L, f3, ?_⟩
    have g : AX [647, 648, 650] [] (fun y => y = 1100 + m ∨ y = 1800 + c) w (sJ (mvW (sL w (1800 + c) (wL w (1800 + c) ++ [1000 + m])) m 2 (nI c) L) 222 0 (nI (ct w (1800 + c) + 1)).toInt64) := by
      unfold mvW
      refine AX.oJ ?_
      refine AX.oL ?_ (Or.inr (Or.inl rfl))
      refine AX.oI ?_ (Or.inl f3)
      refine AX.oI ?_ (Or.inl f3)
      refine AX.oI ?_ (Or.inl f3)
      refine AX.mO ?_ f3
      refine AX.oI ?_ (Or.inr (by decide))
      refine AX.oI ?_ (Or.inr (by decide))
      refine AX.oL ?_ (Or.inr (Or.inr rfl))
      exact AX.refl
    have T222 := g.xo h.o
    refine ⟨(by first | exact T222 | exact hR.o | exact h.o), 0, _, OC.ok, ?_⟩
    rw [oJ_0]
    obtain ⟨V, hV⟩ : ∃ V, V = sJ (mvW (sL w (1800 + c) (wL w (1800 + c) ++ [1000 + m])) m 2 (nI c) L) 222 0 (nI (ct w (1800 + c) + 1)).toInt64 := ⟨_, rfl⟩
    rw [← hV] at g ⊢
    have aA : ∀ t, t ∈ rfI → wA V t = wA w t := g.rows h.ri (fun _ z => z) (fun _ _ => List.not_mem_nil)
    have a1 : ∀ k, k ∈ [769, 770, 771, 787, 798, 809] → wI V k 100 = wI w k 100 := g.i1 h.ri (by decide)
    have hri : RI V := g.xri h.ri (by decide)
    have hrb : RB V := g.xrb h.ri h.rb (by decide) (by decide)
    rw [sq_X12_pack]
    simp (disch := decide) only [aA, a1]
    simp only [aA, a1, cm, cc, e0, e5, e7, w2, w3, w6, w7, k1, k2, k3, k5, way, H4]
    refine ⟨⟨hri, hrb⟩, (by intro a; exfalso; grind), (by intro a; exfalso; grind), (by intro a; exfalso; grind), (by intro a; exfalso; grind), (by intro a; exfalso; grind), (fun _ => ⟨_, rfl, rfl, fun _ => nI_succ1 _, ?_⟩)⟩
    have ix : (4 * nI c + nI (ct w (1800 + c))).toNatClampNeg = 4 * c + ct w (1800 + c) := by
      show (nI 4 * nI c + nI _).toNatClampNeg = _
      rw [pk_mul, nI_add, nI_clamp (by omega)]
    rw [hV, ix, eL, nI_succ1, nI_succ1, nI_clamp (by omega)]
    exact rl_pack h hn hm hcr hc.2.2.2.1 hc.2.1 hk eL

