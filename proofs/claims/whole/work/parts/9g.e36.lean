/-- v holds of the reference what w holds, but for light, unknown hours, book, hour -/
def VS (w v : AW) : Prop := (∀ t, t ∈ rfI → t ∉ [112, 127, 150, 151, 152] → wA v t = wA w t) ∧ ∀ k, k ∈ [770, 771, 784, 787, 797, 798, 809] → wI v k 100 = wI w k 100
theorem VS.pr {w v v' : AW} (h : VS w v) (p : PRR v' v) : VS w v' := ⟨fun t h1 h2 => (p.2.2.2.2.2.2.2 t h2).trans (h.1 t h1 h2), fun k hk => (p.2.2.2.2.2.2.1 k 100 (fun z => by rw [z] at hk; exact absurd hk (by decide))).trans (h.2 k hk)⟩
theorem VS.fo {w v : AW} (h : VS w v) (a d : Int32) : rForce v a d = rForce w a d := by
  unfold rForce
  rw [h.1 136 (by decide) (by decide), h.1 137 (by decide) (by decide), h.2 798 (by decide)]
/-- the two books are one -/
def BKE (u v : AW) : Prop := wI v 816 100 = wI u 67 207 ∧ ∀ k, k < 200 → wA v 150 k = wA u 212 k ∧ wA v 151 k = wA u 213 k ∧ wA v 152 k = wA u 214 k
theorem nt_eq {u v : AW} (h : BKE u v) (k c : Int32) : BKE (ntW u (wI v 769 100) k c) (ntR v k c) := by
  obtain ⟨h1, h2⟩ := h
  unfold ntW ntR BKE
  rw [h1]
  by_cases z : wI u 67 207 < 200
  · rw [if_pos z, if_pos z]
    simp only [wI_sI, wA_sI, wA_sA, Nat.reduceEqDiff, reduceIte, if_true, if_false]
    refine ⟨trivial, fun j hj => ?_⟩
    obtain ⟨a, b, d⟩ := h2 j hj
    by_cases y : j = (wI u 67 207).toNatClampNeg
    · rw [if_pos y, if_pos y, if_pos y, if_pos y, if_pos y, if_pos y]; exact ⟨rfl, rfl, rfl⟩
    · rw [if_neg y, if_neg y, if_neg y, if_neg y, if_neg y, if_neg y]; exact ⟨a, b, d⟩
  · rw [if_neg z, if_neg z]
    simp only [wI_sI, wA_sI, Nat.reduceEqDiff, reduceIte, if_true, if_false]
    exact ⟨trivial, h2⟩
theorem ri_br {a b : AW} {n r j : Nat} {lb : Int32} {N : Nat} (h : BKE a b) (hh : wI a 716 200 = wI b 769 100) (hn : wI a 640 (1000 + n) = nI n) (hc : ∀ i, i < N → (brB (cKd a j i) (cKa a j i) (cKb a j i) lb (wI a 649 (1000 + n)) (wI a 716 200) (wI a 520 (1200 + r)) (wI a 521 (1200 + r)) = true ↔ riP (wA b 139 (10 * j + i)) (wA b 140 (10 * j + i)) (wA b 141 (10 * j + i)) lb (wA b 112 n) (wI b 769 100) (unP b r) (biR b r))) : ∀ i, i ≤ N → BKE (brW a n r lb j i) (riW b n r j lb i)
  | 0, _ => h
  | i + 1, hi => by
    have ih := ri_br h hh hn hc i (by omega)
    have e := hc i (by omega)
    rw [brW, riW]
    have e7 : wI (riW b n r j lb i) 769 100 = wI a 716 200 := ((riW_bk b n r j lb i).2.2.2.2.2.2.1 769 100 (by decide)).trans hh.symm
    by_cases z : riP (wA b 139 (10 * j + i)) (wA b 140 (10 * j + i)) (wA b 141 (10 * j + i)) lb (wA b 112 n) (wI b 769 100) (unP b r) (biR b r)
    · rw [if_pos z, if_pos (e.mpr z), hn]
      have q := nt_eq ih (nI n) (nI i)
      rw [e7] at q; exact q
    · rw [if_neg z, if_neg (fun y => z (e.mp y))]; exact ih
def UN (w : AW) (r t : Nat) : Prop := wA w 126 r = -1 ∨ wA w 118 (wA w 126 r).toNatClampNeg = -1 ∨ wA w 118 (wA w 126 r).toNatClampNeg ≤ nI (t % 24)
def BI (w : AW) (r t : Nat) : Int32 := wA w 119 (24 * wA w 126 r + nI (t % 24)).toNatClampNeg
theorem air_eq {n r t : Nat} {w : AW} (h : Rel n w) (hr : r < ct w 202) : (airV w r (nI (t % 24)) = true ↔ UN w r t) ∧ (¬ UN w r t → airB w r (nI (t % 24)) = BI w r t) := by
  have bd := h.ci.bd
  have h24 : t % 24 < 24 := Nat.mod_lt _ (by decide)
  have p0 : 0 ≤ nI (t % 24) := nI_0le (by omega)
  unfold airV UN BI airB
  rw [decide_eq_true_iff]
  rcases h.a r hr with ⟨a1, a2⟩ | ⟨q, k, hq, hk, a1, a2, a3⟩
  · rw [a1, a2]
    exact ⟨⟨fun _ => Or.inl rfl, fun _ => Or.inl rfl⟩, fun z => absurd (Or.inl rfl) z⟩
  · have e0 : shN w r = q := by unfold shN; rw [a1]; show 1400 + q - 1400 = q; omega
    obtain ⟨s1, s2⟩ := h.s.1 q k hq hk
    have ck : (nI k).toNatClampNeg = k := nI_clamp (by omega)
    have cq : (nI (10 * q + k)).toNatClampNeg = 10 * q + k := nI_clamp (by omega)
    have hne : ¬ nI (10 * q + k) = -1 := fun z => by
      have q1 := congrArg Int32.toNatClampNeg z
      have q2 : (nI (10 * q + k)) < 0 := by rw [z]; decide
      exact absurd q2 (Int32.not_lt.mpr (nI_0le (by omega)))
    rw [e0, a2, a3, ck, cq, s1, a1]
    refine ⟨⟨fun z => ?_, fun z => ?_⟩, fun z => ?_⟩
    · rcases z with z | z
      · cases z
      · exact Or.inr (Or.inr (Int32.not_lt.mp (fun y => z ⟨p0, y⟩)))
    · refine Or.inr (fun y => ?_)
      rcases z with z | z | z
      · exact hne z
      · rw [z] at y; exact absurd y.2 (Int32.not_lt.mpr (Int32.le_of_lt (Int32.lt_of_lt_of_le (by decide : (-1 : Int32) < 0) p0)))
      · exact absurd y.2 (Int32.not_lt.mpr z)
    · have hlt : nI (t % 24) < wA w (1500 + q) k := Int32.not_le.mp (fun y => z (Or.inr (Or.inr y)))
      have i1 : (nI k * 24 + nI (t % 24)).toNatClampNeg = 24 * k + t % 24 := by
        show (nI k * nI 24 + nI _).toNatClampNeg = _
        rw [pk_mul, nI_add, nI_clamp (by omega), Nat.mul_comm]
      have i2 : (24 * nI (10 * q + k) + nI (t % 24)).toNatClampNeg = 24 * (10 * q + k) + t % 24 := by
        show (nI 24 * nI _ + nI _).toNatClampNeg = _
        rw [pk_mul, nI_add, nI_clamp (by omega)]
      rw [i1, i2]
      exact (s2 (t % 24) hlt h24).symm
/-- what the class holds of a room's air in the hour t -/
def AF (w U : AW) (r t : Nat) : Prop := (UN w r t → wI U 520 (1200 + r) = 1) ∧ (¬ UN w r t → wI U 520 (1200 + r) = (if 2139095040 < BI w r t &&& 2147483647 then 2 else 0) ∧ wI U 521 (1200 + r) = cutM (BI w r t))
theorem lx_v (U : AW) (k r x : Nat) : wI (lxW U k r) 649 (1000 + x) = if x = k then wI U 649 (1000 + k) + (if wI U 515 (1200 + r) ≤ (wI U 716 200 - wI U 716 200 / 24 * 24) ∧ (wI U 716 200 - wI U 716 200 / 24 * 24) < wI U 516 (1200 + r) then wI U 514 (1200 + r) else 0) else wI U 649 (1000 + x) := by
  unfold lxW
  rw [wI_sI, if_pos rfl]
  by_cases z : x = k
  · rw [if_pos z, if_pos (by omega)]
  · rw [if_neg z, if_neg (by omega)]
/-- one work's hour -/
theorem pass_eq {n t k r : Nat} {w U V : AW} (h : Rel n w) (cs : CS w U) (vs : VS w V) (ht : t ≤ 200000) (hU : wI U 716 200 = nI t) (hV : wI V 769 100 = nI t) (hk : k < ct w 201) (hr : r < ct w 202) (hl : ∀ x, x < ct w 201 → wA V 112 x = wI U 649 (1000 + x)) (hb : BKE U V) (ha : AF w U r t) : BKE (bhW U k r) (paW V k r) ∧ ∀ x, x < ct w 201 → wA (paW V k r) 112 x = wI (bhW U k r) 649 (1000 + x) := by
  have hC := h.ci
  have bd := hC.bd
  obtain ⟨cT, cR, cN, cL, cI, cA⟩ := cs
  have cs : CS w U := ⟨cT, cR, cN, cL, cI, cA⟩
  obtain ⟨r1, r2, r3, r4, r5, r6, r7, r8⟩ := h.r r hr
  obtain ⟨w1, w2, w3, w4, w5, w6, w7, w8⟩ := h.wk k hk
  have eF : ∀ a d, rForce V a d = cForce U a d := fun a d => by
    rw [vs.fo, cs.fo]; exact force_eq hC h.c h.l a d
  have e5 : wA V 105 k = wI U 641 (1000 + k) := by
    rw [vs.1 105 (by decide) (by decide), cI 641 _ (by decide)]; exact w1
  have elx : ∀ x, x < ct w 201 → wA (lgW V k r) 112 x = wI (lxW U k r) 649 (1000 + x) := fun x hx => by
    rw [lx_v]
    unfold lgW
    rw [wA_sA, if_pos rfl, hl k hk, hl x hx, hV, hU, vs.1 123 (by decide) (by decide), vs.1 124 (by decide) (by decide), vs.1 125 (by decide) (by decide), r3, r4, r5, cI 514 _ (by decide), cI 515 _ (by decide), cI 516 _ (by decide)]
  have hb2 : BKE (lxW U k r) (lgW V k r) := hb
  unfold bhW paW
  rw [eF, e5, hU, hV]
  by_cases z : cForce U (wI U 641 (1000 + k)) (nI t / 24) = -1
  · rw [if_pos z, if_pos z]; exact ⟨hb2, elx⟩
  · rw [if_neg z, if_neg z]
    have hfw : cForce U (wI U 641 (1000 + k)) (nI t / 24) = cForce w (wI U 641 (1000 + k)) (nI t / 24) := cs.fo _ _
    rcases cForce_in w (wI U 641 (1000 + k)) (nI t / 24) with e | ⟨j, hj, e⟩
    · rw [hfw] at z; exact absurd e z
    · obtain ⟨l1, l2, l3, l4⟩ := h.l j hj
      have cj : (nI j).toNatClampNeg = j := nI_clamp (by omega)
      have hc10 := (ci_L hC hj).2.2.2.2.1
      rw [hfw, e, cj, vs.1 138 (by decide) (by decide), l3, nI_clamp (by omega)]
      have ecU : ct U (2000 + j) = ct w (2000 + j) := by unfold ct; rw [cL]
      rw [ecU, hl k hk]
      have ss : SS [67] (brW (lxW U k r) k r (wI U 649 (1000 + k)) j (ct w (2000 + j))) (lxW U k r) := brW_ss _ _ _ _ _ _
      refine ⟨ri_br (N := ct w (2000 + j)) hb2 ?_ ?_ (fun i hi => ?_) _ (Nat.le_refl _), fun x hx => ?_⟩
      · show wI U 716 200 = wI V 769 100
        rw [hU, hV]
      · show wI U 640 (1000 + k) = nI k
        rw [cI 640 _ (by decide)]; exact (ci_W hC hk).2.2.2.2.1
      · obtain ⟨g1, g2, g3⟩ := l4 i hi
        have q1 : cKd (lxW U k r) j i = wA (lgW V k r) 139 (10 * j + i) := by
          show cKd U j i = wA V 139 _
          unfold cKd kdN
          rw [vs.1 139 (by decide) (by decide), g1, cR]; rfl
        have q2 : cKa (lxW U k r) j i = wA (lgW V k r) 140 (10 * j + i) := by
          show wI U 129 _ = wA V 140 _
          rw [vs.1 140 (by decide) (by decide), g2, cI 129 _ (by decide)]
        have q3 : cKb (lxW U k r) j i = wA (lgW V k r) 141 (10 * j + i) := by
          show wI U 130 _ = wA V 141 _
          rw [vs.1 141 (by decide) (by decide), g3, cI 130 _ (by decide)]
        have q4 : wI (lxW U k r) 716 200 = wI (lgW V k r) 769 100 := by
          show wI U 716 200 = wI V 769 100
          rw [hU, hV]
        rw [q1, q2, q3, q4, elx k hk]
        have eu : unP (lgW V k r) r ↔ UN w r t := by
          show (wA V 126 r = -1 ∨ wA V 118 (wA V 126 r).toNatClampNeg = -1 ∨ wA V 118 (wA V 126 r).toNatClampNeg ≤ (wI V 769 100 - wI V 769 100 / 24 * 24)) ↔ _
          rw [vs.1 126 (by decide) (by decide), vs.1 118 (by decide) (by decide), hV, nI_rem24 (by omega)]
          exact Iff.rfl
        have eb : biR (lgW V k r) r = BI w r t := by
          show wA V 119 (24 * wA V 126 r + (wI V 769 100 - wI V 769 100 / 24 * 24)).toNatClampNeg = _
          rw [vs.1 126 (by decide) (by decide), vs.1 119 (by decide) (by decide), hV, nI_rem24 (by omega)]
          rfl
        rw [eb]
        refine br_eq (fun y => ?_) (fun y => ?_)
        · exact ha.1 (eu.mp y)
        · exact ha.2 (fun z => y (eu.mpr z))
      · rw [(riW_bk _ _ _ _ _ _).2.2.2.2.2.2.2 112 (by decide) (by decide) (by decide), ss.2.2.2.2.2 649 _ (by decide)]
        exact elx x hx

