def nwL (w : AW) (n : Nat) (a b : Int32) : AW := (sI (sI (sI (lsW (nO w (1900 + n) 7) (1900 + n) 387 (2000 + n)) 384 (1900 + n) (nI n)) 385 (1900 + n) a) 386 (1900 + n) b)
theorem nwL_is (w : AW) (n : Nat) (a b : Int32) : (sI (sI (sI (lsW (nO w (1900 + n) 7) (1900 + n) 387 (2000 + n)) 384 (1900 + n) (nI n)) 385 (1900 + n) a) 386 (1900 + n) b) = nwL w n a b := rfl
theorem nwL_ag {w : AW} {n : Nat} {a b : Int32} (ht : wT w (1900 + n) = 0) (hx : wT w (2000 + n) = 0) : AG w (nwL w n a b) := by
  have hx2 : wT (nO w (1900 + n) 7) (2000 + n) = 0 := by rw [wT_nO, if_neg (by omega)]; exact hx
  have g := lsW_ag (k := 387) (t := 1900 + n) (ag_nO (AG.refl w) (t := 7) ht) ht hx2 hx
  exact ((g.oI ht).oI ht).oI ht
theorem nwL_T {w : AW} {n y : Nat} {a b : Int32} : wT (nwL w n a b) y = if y = 2000 + n then 40 else if y = 1900 + n then 7 else wT w y := by
  show wT (lsW (nO w (1900 + n) 7) (1900 + n) 387 (2000 + n)) y = _
  rw [lsW_T, wT_nO]
theorem nwL_ci {w : AW} {n : Nat} {a b : Int32} (hC : CIv w) (ht : wT w (1900 + n) = 0) (hx : wT w (2000 + n) = 0) : CIv (nwL w n a b) := (nwL_ag ht hx).ci hC (by rw [nwL_T, if_neg (by omega), if_neg (by omega)]; exact (ci_C hC).2.2.1) (by rw [nwL_T, if_neg (by omega), if_neg (by omega)]; exact (ci_C hC).2.2.2)
theorem nwL_ln {w : AW} {n : Nat} {a b : Int32} : wL (nwL w n a b) (2000 + n) = [] := by
  show wL (lsW (nO w (1900 + n) 7) (1900 + n) 387 (2000 + n)) (2000 + n) = []
  rw [lsW_L, if_pos rfl]
theorem nwL_lw {w : AW} {n : Nat} {a b : Int32} (hC : CIv w) (ht : wT w (1900 + n) = 0) (hx : wT w (2000 + n) = 0) : LW (nwL w n a b) (2000 + n) := ⟨ci_C (nwL_ci hC ht hx), by rw [nwL_T, if_pos rfl], by rw [nwL_ln]; decide, by rw [nwL_ln]; exact fun q hq => absurd hq List.not_mem_nil⟩
theorem nwL_l {w : AW} {n : Nat} {a b : Int32} (hC : CIv w) (ht : wT w (1900 + n) = 0) (hx : wT w (2000 + n) = 0) : wL (nwL w n a b) 204 = wL w 204 ∧ ct (nwL w n a b) 204 = ct w 204 := by
  have e := (nwL_ag (a := a) (b := b) ht hx).L (ci_loans hC).1 (by decide)
  exact ⟨e, congrArg List.length e⟩
theorem nwL_R {w : AW} {n k : Nat} {a b : Int32} (hk : k ≠ 387) : wR (nwL w n a b) k (1900 + n) = none := by
  show wR (sR (sL (sT (nO (nO w (1900 + n) 7) (2000 + n) 1) (2000 + n) 40) (2000 + n) []) 387 (1900 + n) (some (2000 + n))) k (1900 + n) = none
  rw [wR_sR, if_neg hk]
  show wR (nO (nO w (1900 + n) 7) (2000 + n) 1) k (1900 + n) = none
  rw [wR_nO, if_neg (by omega), wR_nO, if_pos rfl]
theorem nwL_k {w : AW} {n : Nat} {a b : Int32} : wR (nwL w n a b) 387 (1900 + n) = some (2000 + n) := by
  show wR (sR (sL (sT (nO (nO w (1900 + n) 7) (2000 + n) 1) (2000 + n) 40) (2000 + n) []) 387 (1900 + n) (some (2000 + n))) 387 (1900 + n) = _
  rw [wR_sR, if_pos rfl, if_pos rfl]
theorem nwL_t {w : AW} {n : Nat} {a b : Int32} : wT (nwL w n a b) (1900 + n) = 7 := by rw [nwL_T, if_neg (by omega), if_pos rfl]
theorem nwL_ln2 {w : AW} {n : Nat} {a b : Int32} (hC : CIv w) (ht : wT w (1900 + n) = 0) (hx : wT w (2000 + n) = 0) : LNp (nwL w n a b) n := by
  have e : ct (nwL w n a b) (2000 + n) = 0 := by unfold ct; rw [nwL_ln]; rfl
  refine ⟨nwL_t, nwL_k, nwL_lw hC ht hx, by rw [e, nwL_ln]; rfl, by rw [e]; decide, fun c hc => by rw [e] at hc; exact absurd hc (Nat.not_lt_zero c), ?_⟩
  unfold nwL
  simp only [wI_sI, if_pos, Nat.reduceEqDiff, if_false]
/-- a new reader of the tape's first n bytes -/
def rdI (w : AW) (n : Int32) (k : Nat) : AW := sR (sI (sR (sI (nO w 223 8) 452 223 (-1)) 448 223 (some 209)) 449 223 n) 450 223 (some (2000 + k))
/-- worlds that differ in the clauses of loan k alone -/
def KP (w u : AW) (k : Nat) : Prop := wN u = wN w ∧ wA u = wA w ∧ wJ u = wJ w ∧ ∀ x, x ≠ 2000 + k → ¬ (2100 + 10 * k ≤ x ∧ x < 2110 + 10 * k) → wT u x = wT w x ∧ wL u x = wL w x ∧ (∀ q, wP u x q = wP w x q) ∧ (∀ q, wR u q x = wR w q x) ∧ ∀ q, wI u q x = wI w q x
theorem addC_P {w : AW} {k j x q : Nat} {a b : Int32} (h : x ≠ cid w k) : wP (addC w k j a b) x q = wP w x q := by
  show wP (nO w (cid w k) 3) x q = _
  rw [wP_nO, if_neg h]
theorem KP.refl (w : AW) (k : Nat) : KP w w k := ⟨rfl, rfl, rfl, fun _ _ _ => ⟨rfl, rfl, fun _ => rfl, fun _ => rfl, fun _ => rfl⟩⟩
theorem KP.add {w u : AW} {k j : Nat} {a b : Int32} (h : KP w u k) (hc : ct u (2000 + k) < 10) : KP w (addC u k j a b) k := by
  obtain ⟨h1, h2, h3, h5⟩ := h
  refine ⟨h1, h2, h3, fun x hx hy => ?_⟩
  have hn : x ≠ cid u k := fun z => hy (by rw [z]; unfold cid; omega)
  obtain ⟨g1, g2, gP, g3, g4⟩ := h5 x hx hy
  exact ⟨by rw [addC_T, if_neg hn]; exact g1, by rw [addC_L hx hn]; exact g2, fun q => by rw [addC_P hn]; exact gP q, fun q => by rw [addC_R hn]; exact g3 q, fun q => by rw [addC_I hn]; exact g4 q⟩
theorem KP.rc {w u : AW} {k : Nat} (h : KP w u k) (T : Nat → Int32) (n : Nat) (s : Nat × Int32) : KP w (rcC T n k u s).1 k := by
  rcases rcC_or T n k u s with e | ⟨hc, j, a, b, e⟩
  · rw [e]; exact h
  · rw [e]; exact h.add hc
theorem txR_kp {w : AW} {k : Nat} {T : Nat → Int32} {n : Nat} : ∀ d u s, KP w u k → KP w (txR T n k d u s).1 k
  | 0, _, _, h => h
  | d + 1, u, s, h => by
    rw [txR]
    split
    · exact txR_kp d _ _ (h.rc T n s)
    · exact h
/-- the world in which the text of loan k begins to be read -/
def lnW (w : AW) (k : Nat) (n a d : Int32) : AW := sI (rdI (nwL w k a d) n k) 715 200 0
def lnR (w : AW) (k : Nat) (n a d : Int32) : AW × (Nat × Int32) := txR (wA w 209) n.toNatClampNeg k 11 (lnW w k n a d) (skS (wA w 209) n.toNatClampNeg (0, -1))
theorem rdI_T {w : AW} {n : Int32} {k x : Nat} : wT (rdI w n k) x = if x = 223 then 8 else wT w x := by
  show wT (nO w 223 8) x = _
  rw [wT_nO]
theorem rdI_I {w : AW} {n : Int32} {k x q : Nat} (h : x ≠ 223) : wI (rdI w n k) q x = wI w q x := by
  show wI (sI (sR (sI (nO w 223 8) 452 223 (-1)) 448 223 (some 209)) 449 223 n) q x = _
  rw [wI_sI, if_neg h, ite_self]
  show wI (sI (nO w 223 8) 452 223 (-1)) q x = _
  rw [wI_sI, if_neg h, ite_self, wI_nO, if_neg h]
theorem rdI_R {w : AW} {n : Int32} {k x q : Nat} (h : x ≠ 223) : wR (rdI w n k) q x = wR w q x := by
  show wR (sR (sI (sR (sI (nO w 223 8) 452 223 (-1)) 448 223 (some 209)) 449 223 n) 450 223 (some (2000 + k))) q x = _
  rw [wR_sR, if_neg h, ite_self]
  show wR (sR (sI (nO w 223 8) 452 223 (-1)) 448 223 (some 209)) q x = _
  rw [wR_sR, if_neg h, ite_self]
  show wR (nO w 223 8) q x = _
  rw [wR_nO, if_neg h]
theorem rdI_L {w : AW} {n : Int32} {k x : Nat} (h : x ≠ 223) : wL (rdI w n k) x = wL w x := by
  show wL (nO w 223 8) x = _
  rw [wL_nO, if_neg h]
theorem lnW_rs {w : AW} {k : Nat} {n a d : Int32} {m : Nat} (hC : CIv w) (hm : n = nI m) (hm2 : m ≤ 200) (hk : k < 30) : RS (lnW w k n a d) ∧ rN (lnW w k n a d) = m ∧ rA (lnW w k n a d) = 0 ∧ wI (lnW w k n a d) 452 223 = -1 := by
  have e1 : wI (lnW w k n a d) 449 223 = n := rfl
  have e2 : wI (lnW w k n a d) 451 223 = 0 := rfl
  have hN : rN (lnW w k n a d) = m := by unfold rN; rw [e1, hm, nI_clamp (by omega)]
  have hA : rA (lnW w k n a d) = 0 := by unfold rA; rw [e2]; rfl
  obtain ⟨-, t2, t3⟩ := ci_tape hC
  have eT : wT (lnW w k n a d) 209 = 21 := by
    show wT (rdI (nwL w k a d) n k) 209 = 21
    rw [rdI_T, if_neg (by decide), nwL_T, if_neg (by omega), if_neg (by omega)]; exact t2
  exact ⟨⟨⟨rfl, rfl, eT, t3, by rw [e1, hN, hm], by rw [hN]; exact hm2⟩, by rw [e2, hA]; rfl, by rw [hA]; exact Nat.zero_le _⟩, hN, hA, rfl⟩
theorem lnW_T {w : AW} {k x : Nat} {n a d : Int32} : wT (lnW w k n a d) x = if x = 223 then 8 else if x = 2000 + k then 40 else if x = 1900 + k then 7 else wT w x := by
  show wT (rdI (nwL w k a d) n k) x = _
  rw [rdI_T, nwL_T]
theorem lnW_rk {w : AW} {k : Nat} {n a d : Int32} (hC : CIv w) (hk : k < 30) (h1 : wT w (1900 + k) = 0) (h2 : wT w (2000 + k) = 0) (h3 : wT w 223 = 0) (hf : ∀ i, i < 10 → wT w (2100 + 10 * k + i) = 0) : RK (lnW w k n a d) k := by
  have eL : wL (lnW w k n a d) (2000 + k) = [] := by
    show wL (rdI (nwL w k a d) n k) (2000 + k) = []
    rw [rdI_L (by omega), nwL_ln]
  have nT : ∀ x c, wT w x = c → c ≠ 0 → wT (lnW w k n a d) x = c := fun x c hx hc => by
    rw [lnW_T, if_neg (fun z => hc (by rw [← hx, z]; exact h3)), if_neg (fun z => hc (by rw [← hx, z]; exact h2)), if_neg (fun z => hc (by rw [← hx, z]; exact h1))]; exact hx
  have hK := ci_K hC
  have hL := ci_C hC
  refine ⟨⟨fun i hi => ?_, nT _ _ hK.2.1 (by decide), nT _ _ hK.2.2 (by decide)⟩, hk, rfl, ⟨⟨nT _ _ hL.1 (by decide), nT _ _ hL.2.1 (by decide), ?_, ?_⟩, ?_, ?_, ?_⟩, ?_, ?_⟩
  · obtain ⟨a1, a2, a3⟩ := hK.1 i hi
    exact ⟨nT _ _ a1 (by decide), nT _ _ a2 (by decide), nT _ _ a3 (by decide)⟩
  · rw [lnW_T, if_neg (by decide), if_neg (by omega), if_neg (by omega)]; exact hL.2.2.1
  · rw [lnW_T, if_neg (by decide), if_neg (by omega), if_neg (by omega)]; exact hL.2.2.2
  · rw [lnW_T, if_neg (by omega), if_pos rfl]
  · rw [eL]; decide
  · rw [eL]; exact fun q hq => absurd hq List.not_mem_nil
  · unfold ct; rw [eL]; decide
  · intro i _ hi
    rw [lnW_T, if_neg (by omega), if_neg (by omega), if_neg (by omega)]; exact hf i hi
