def clW (w : AW) (i kd : Nat) (a b : Int32) : AW := sI (sI (sR (nO w i 3) 128 i (some kd)) 129 i a) 130 i b
def cid (w : AW) (k : Nat) : Nat := 2100 + 10 * k + ct w (2000 + k)
/-- a clause more -/
def addC (w : AW) (k j : Nat) (a b : Int32) : AW := sL (clW w (cid w k) (10 + j) a b) (2000 + k) (wL w (2000 + k) ++ [cid w k])
theorem nO_rdW {w : AW} {i t : Nat} {s : Nat × Int32} (h : i ≠ 223) : nO (rdW w s) i t = rdW (nO w i t) s := by
  refine Prod.ext rfl (Prod.ext ?_ rfl)
  funext k x
  show wI (nO (rdW w s) i t) k x = wI (rdW (nO w i t) s) k x
  unfold rdW
  simp only [wI_nO, wI_sI]
  by_cases e : x = i
  · have e2 : ¬ x = 223 := fun z => h (e.symm.trans z)
    simp only [if_pos e, if_neg e2, ite_self]
  · simp only [if_neg e]
theorem rdW_sI {w : AW} {k i : Nat} {v : Int32} {s : Nat × Int32} (h1 : k ≠ 451) (h2 : k ≠ 452) : sI (rdW w s) k i v = rdW (sI w k i v) s := by
  unfold rdW
  rw [sI_comm (k := 452) (k' := k) (Ne.symm h2), sI_comm (k := 451) (k' := k) (Ne.symm h1)]
theorem clW_rd {w : AW} {i kd : Nat} {a b : Int32} {s : Nat × Int32} (h : i ≠ 223) : clW (rdW w s) i kd a b = rdW (clW w i kd a b) s := by
  unfold clW
  rw [nO_rdW h]
  have e : sR (rdW (nO w i 3) s) 128 i (some kd) = rdW (sR (nO w i 3) 128 i (some kd)) s := rfl
  rw [e, rdW_sI (by decide) (by decide), rdW_sI (by decide) (by decide)]
theorem addC_rd {w : AW} {k j : Nat} {a b : Int32} {s : Nat × Int32} : sL (clW (rdW w s) (cid w k) (10 + j) a b) (2000 + k) (wL w (2000 + k) ++ [cid w k]) = rdW (addC w k j a b) s := by
  rw [clW_rd (by unfold cid; omega)]
  rfl
theorem addC_T {w : AW} {k j x : Nat} {a b : Int32} : wT (addC w k j a b) x = if x = cid w k then 3 else wT w x := by
  show wT (nO w (cid w k) 3) x = _
  rw [wT_nO]
theorem addC_N {w : AW} {k j : Nat} {a b : Int32} : wN (addC w k j a b) = wN w := rfl
theorem addC_A {w : AW} {k j : Nat} {a b : Int32} : wA (addC w k j a b) = wA w := rfl
theorem addC_R {w : AW} {k j x q : Nat} {a b : Int32} (h : x ≠ cid w k) : wR (addC w k j a b) q x = wR w q x := by
  show wR (sR (nO w (cid w k) 3) 128 (cid w k) (some (10 + j))) q x = _
  rw [wR_sR, if_neg h, ite_self, wR_nO, if_neg h]
theorem addC_I {w : AW} {k j x q : Nat} {a b : Int32} (h : x ≠ cid w k) : wI (addC w k j a b) q x = wI w q x := by
  show wI (sI (sI (sR (nO w (cid w k) 3) 128 (cid w k) (some (10 + j))) 129 (cid w k) a) 130 (cid w k) b) q x = _
  rw [wI_sI, if_neg h, ite_self, wI_sI, if_neg h, ite_self]
  show wI (nO w (cid w k) 3) q x = _
  rw [wI_nO, if_neg h]
theorem addC_l {w : AW} {k j : Nat} {a b : Int32} : wL (addC w k j a b) (2000 + k) = wL w (2000 + k) ++ [cid w k] := wLe
theorem addC_c {w : AW} {k j : Nat} {a b : Int32} : ct (addC w k j a b) (2000 + k) = ct w (2000 + k) + 1 := by
  unfold ct
  rw [addC_l, List.length_append]; rfl
theorem addC_L {w : AW} {k j x : Nat} {a b : Int32} (h1 : x ≠ 2000 + k) (h2 : x ≠ cid w k) : wL (addC w k j a b) x = wL w x := by
  show wL (sL (clW w (cid w k) (10 + j) a b) (2000 + k) (wL w (2000 + k) ++ [cid w k])) x = _
  rw [wLs h1]
  show wL (nO w (cid w k) 3) x = _
  rw [wL_nO, if_neg h2]
/-- what reading the clauses of loan k needs -/
def RK (w : AW) (k : Nat) : Prop := KC w ∧ k < 30 ∧ wR w 450 223 = some (2000 + k) ∧ LW w (2000 + k) ∧ ct w (2000 + k) ≤ 10 ∧ ∀ i, ct w (2000 + k) ≤ i → i < 10 → wT w (2100 + 10 * k + i) = 0
theorem RK_rd {w : AW} {k : Nat} {s : Nat × Int32} : RK (rdW w s) k = RK w k := rfl
theorem RS.add {w : AW} {k j : Nat} {a b : Int32} (h : RS w) : RS (addC w k j a b) := by
  have n1 : 223 ≠ cid w k := by unfold cid; omega
  have n2 : 209 ≠ cid w k := by unfold cid; omega
  have e1 : rN (addC w k j a b) = rN w := by unfold rN; rw [addC_I n1]
  have e2 : rA (addC w k j a b) = rA w := by unfold rA; rw [addC_I n1]
  obtain ⟨⟨a1, a2, a3, a4, a5, a6⟩, a7, a8⟩ := h
  exact ⟨⟨by rw [addC_T, if_neg n1]; exact a1, by rw [addC_R n1]; exact a2, by rw [addC_T, if_neg n2]; exact a3, a4, by rw [addC_I n1, e1]; exact a5, by rw [e1]; exact a6⟩, by rw [addC_I n1, e2]; exact a7, by rw [e1, e2]; exact a8⟩
theorem RK.add {w : AW} {k j : Nat} {a b : Int32} (h : RK w k) (hc : ct w (2000 + k) < 10) : RK (addC w k j a b) k := by
  obtain ⟨a1, a2, a3, a4, a5, a6⟩ := h
  have hid : cid w k = 2100 + 10 * k + ct w (2000 + k) := rfl
  have nT : ∀ x, x < 2100 → wT (addC w k j a b) x = wT w x := fun x hx => by rw [addC_T, if_neg (by omega)]
  obtain ⟨l1, l2, l3, l4⟩ := a4
  refine ⟨⟨fun i hi => ?_, ?_, ?_⟩, a2, by rw [addC_R (by omega)]; exact a3, ⟨⟨?_, ?_, ?_, ?_⟩, ?_, ?_, ?_⟩, ?_, ?_⟩
  · rw [nT _ (by omega), nT _ (by omega), nT _ (by omega)]; exact a1.1 i hi
  · rw [nT _ (by omega)]; exact a1.2.1
  · rw [nT _ (by omega)]; exact a1.2.2
  · rw [nT _ (by omega)]; exact l1.1
  · rw [nT _ (by omega)]; exact l1.2.1
  · rw [nT _ (by omega)]; exact l1.2.2.1
  · rw [nT _ (by omega)]; exact l1.2.2.2
  · rw [nT _ (by omega)]; exact l2
  · rw [addC_l, List.length_append]
    have e : (wL w (2000 + k)).length = ct w (2000 + k) := rfl
    have e2 : [cid w k].length = 1 := rfl
    omega
  · rw [addC_l]
    intro q hq
    rcases List.mem_append.mp hq with hq | hq
    · rw [addC_T]
      split
      · decide
      · exact l4 q hq
    · rw [List.mem_singleton] at hq
      rw [addC_T, if_pos hq]; decide
  · rw [addC_c]; omega
  · intro i h1 h2
    rw [addC_c] at h1
    rw [addC_T, if_neg (by omega)]
    exact a6 i (by omega) h2
def clA (T : Nat → Int32) (n : Nat) (s : Nat × Int32) (j : Nat) : (Nat × Int32) × Int32 := if j = 0 then ciF T n 200 true s 0 else (nmS T n (if j = 5 then 9 else 999999) s, nmV T n s)
def clB (T : Nat → Int32) (n : Nat) (s : Nat × Int32) (j : Nat) : (Nat × Int32) × Int32 := if j = 3 then (nmS T n 999999 (sgS T n 45 (clA T n s j).1), nmV T n (sgS T n 45 (clA T n s j).1)) else ((clA T n s j).1, 0)
def clS (T : Nat → Int32) (n : Nat) (s : Nat × Int32) (j : Nat) : Nat × Int32 := sgS T n 59 (clB T n s j).1
theorem clA_le {T : Nat → Int32} {n : Nat} {s : Nat × Int32} {j : Nat} (h : s.1 ≤ n) : (clA T n s j).1.1 ≤ n := by
  unfold clA
  split
  · exact ciF_le _ _ _ _ h
  · exact nmS_le h
theorem clB_le {T : Nat → Int32} {n : Nat} {s : Nat × Int32} {j : Nat} (h : s.1 ≤ n) : (clB T n s j).1.1 ≤ n := by
  unfold clB
  split
  · exact nmS_le (sgS_le (clA_le h))
  · exact clA_le h
theorem clS_le {T : Nat → Int32} {n : Nat} {s : Nat × Int32} {j : Nat} (h : s.1 ≤ n) : (clS T n s j).1 ≤ n := sgS_le (clB_le h)
/-- one clause is read: the world and where the reader stands -/
def rcC (T : Nat → Int32) (n k : Nat) (w : AW) (s : Nat × Int32) : AW × (Nat × Int32) := match rwK T n s with
  | none => (w, (rwE T n s, nI s.1))
  | some q => if ct w (2000 + k) < 10 then (if (clS T n (rwE T n s, -1) (q - 10)).2 = -1 then (addC w k (q - 10) (clA T n (rwE T n s, -1) (q - 10)).2 (clB T n (rwE T n s, -1) (q - 10)).2, clS T n (rwE T n s, -1) (q - 10)) else (w, clS T n (rwE T n s, -1) (q - 10))) else (w, (rwE T n s, nI s.1))
theorem rcC_le {T : Nat → Int32} {n k : Nat} {w : AW} {s : Nat × Int32} (h : s.1 ≤ n) : (rcC T n k w s).2.1 ≤ n := by
  have e := (rwE_le (T := T) h).1
  unfold rcC
  split
  · exact e
  · split
    · split
      · exact clS_le (s := (rwE T n s, -1)) e
      · exact clS_le (s := (rwE T n s, -1)) e
    · exact e
