def nwW (w : AW) (n : Nat) (a b c d e : Int32) : AW := (sI (sI (sI (sI (sI (sI (lsW (nO w (1000 + n) 11) (1000 + n) 646 (1100 + n)) 640 (1000 + n) (nI n)) 641 (1000 + n) a) 642 (1000 + n) b) 643 (1000 + n) c) 644 (1000 + n) d) 645 (1000 + n) e)
theorem nwW_is (w : AW) (n : Nat) (a b c d e : Int32) : (sI (sI (sI (sI (sI (sI (lsW (nO w (1000 + n) 11) (1000 + n) 646 (1100 + n)) 640 (1000 + n) (nI n)) 641 (1000 + n) a) 642 (1000 + n) b) 643 (1000 + n) c) 644 (1000 + n) d) 645 (1000 + n) e) = nwW w n a b c d e := rfl
theorem nwW_ag {w : AW} {n : Nat} {a b c d e : Int32} (ht : wT w (1000 + n) = 0) (hx : wT w (1100 + n) = 0) : AG w (nwW w n a b c d e) := by
  have hx2 : wT (nO w (1000 + n) 11) (1100 + n) = 0 := by rw [wT_nO, if_neg (by omega)]; exact hx
  have g := lsW_ag (k := 646) (t := 1000 + n) (ag_nO (AG.refl w) (t := 11) ht) ht hx2 hx
  exact (((((g.oI ht).oI ht).oI ht).oI ht).oI ht).oI ht
theorem nwW_T {w : AW} {n y : Nat} {a b c d e : Int32} : wT (nwW w n a b c d e) y = if y = 1100 + n then 40 else if y = 1000 + n then 11 else wT w y := by
  show wT (lsW (nO w (1000 + n) 11) (1000 + n) 646 (1100 + n)) y = _
  rw [lsW_T, wT_nO]
theorem nwW_ci {w : AW} {n : Nat} {a b c d e : Int32} (hC : CIv w) (ht : wT w (1000 + n) = 0) (hx : wT w (1100 + n) = 0) : CIv (nwW w n a b c d e) := (nwW_ag ht hx).ci hC (by rw [nwW_T, if_neg (by omega), if_neg (by omega)]; exact (ci_C hC).2.2.1) (by rw [nwW_T, if_neg (by omega), if_neg (by omega)]; exact (ci_C hC).2.2.2)
theorem nwW_ln {w : AW} {n : Nat} {a b c d e : Int32} : wL (nwW w n a b c d e) (1100 + n) = [] := by
  show wL (lsW (nO w (1000 + n) 11) (1000 + n) 646 (1100 + n)) (1100 + n) = []
  rw [lsW_L, if_pos rfl]
theorem nwW_lw {w : AW} {n : Nat} {a b c d e : Int32} (hC : CIv w) (ht : wT w (1000 + n) = 0) (hx : wT w (1100 + n) = 0) : LW (nwW w n a b c d e) (1100 + n) := ⟨ci_C (nwW_ci hC ht hx), by rw [nwW_T, if_pos rfl], by rw [nwW_ln]; decide, by rw [nwW_ln]; exact fun q hq => absurd hq List.not_mem_nil⟩
theorem nwW_l {w : AW} {n : Nat} {a b c d e : Int32} (hC : CIv w) (ht : wT w (1000 + n) = 0) (hx : wT w (1100 + n) = 0) : wL (nwW w n a b c d e) 201 = wL w 201 ∧ ct (nwW w n a b c d e) 201 = ct w 201 := by
  have e := (nwW_ag (a := a) (b := b) (c := c) (d := d) (e := e) ht hx).L (ci_works hC).1 (by decide)
  exact ⟨e, congrArg List.length e⟩
theorem nwW_R {w : AW} {n k : Nat} {a b c d e : Int32} (hk : k ≠ 646) : wR (nwW w n a b c d e) k (1000 + n) = none := by
  show wR (sR (sL (sT (nO (nO w (1000 + n) 11) (1100 + n) 1) (1100 + n) 40) (1100 + n) []) 646 (1000 + n) (some (1100 + n))) k (1000 + n) = none
  rw [wR_sR, if_neg hk]
  show wR (nO (nO w (1000 + n) 11) (1100 + n) 1) k (1000 + n) = none
  rw [wR_nO, if_neg (by omega), wR_nO, if_pos rfl]
theorem nwW_k {w : AW} {n : Nat} {a b c d e : Int32} : wR (nwW w n a b c d e) 646 (1000 + n) = some (1100 + n) := by
  show wR (sR (sL (sT (nO (nO w (1000 + n) 11) (1100 + n) 1) (1100 + n) 40) (1100 + n) []) 646 (1000 + n) (some (1100 + n))) 646 (1000 + n) = _
  rw [wR_sR, if_pos rfl, if_pos rfl]
theorem nwW_t {w : AW} {n : Nat} {a b c d e : Int32} : wT (nwW w n a b c d e) (1000 + n) = 11 := by rw [nwW_T, if_neg (by omega), if_pos rfl]
def nwR (w : AW) (n : Nat) (a b c d e : Int32) : AW := (sI (sI (sI (sI (sI (lsW (nO w (1200 + n) 9) (1200 + n) 517 (1300 + n)) 512 (1200 + n) a) 513 (1200 + n) b) 514 (1200 + n) c) 515 (1200 + n) d) 516 (1200 + n) e)
theorem nwR_is (w : AW) (n : Nat) (a b c d e : Int32) : (sI (sI (sI (sI (sI (lsW (nO w (1200 + n) 9) (1200 + n) 517 (1300 + n)) 512 (1200 + n) a) 513 (1200 + n) b) 514 (1200 + n) c) 515 (1200 + n) d) 516 (1200 + n) e) = nwR w n a b c d e := rfl
theorem nwR_ag {w : AW} {n : Nat} {a b c d e : Int32} (ht : wT w (1200 + n) = 0) (hx : wT w (1300 + n) = 0) : AG w (nwR w n a b c d e) := by
  have hx2 : wT (nO w (1200 + n) 9) (1300 + n) = 0 := by rw [wT_nO, if_neg (by omega)]; exact hx
  have g := lsW_ag (k := 517) (t := 1200 + n) (ag_nO (AG.refl w) (t := 9) ht) ht hx2 hx
  exact ((((g.oI ht).oI ht).oI ht).oI ht).oI ht
theorem nwR_T {w : AW} {n y : Nat} {a b c d e : Int32} : wT (nwR w n a b c d e) y = if y = 1300 + n then 40 else if y = 1200 + n then 9 else wT w y := by
  show wT (lsW (nO w (1200 + n) 9) (1200 + n) 517 (1300 + n)) y = _
  rw [lsW_T, wT_nO]
theorem nwR_ci {w : AW} {n : Nat} {a b c d e : Int32} (hC : CIv w) (ht : wT w (1200 + n) = 0) (hx : wT w (1300 + n) = 0) : CIv (nwR w n a b c d e) := (nwR_ag ht hx).ci hC (by rw [nwR_T, if_neg (by omega), if_neg (by omega)]; exact (ci_C hC).2.2.1) (by rw [nwR_T, if_neg (by omega), if_neg (by omega)]; exact (ci_C hC).2.2.2)
theorem nwR_ln {w : AW} {n : Nat} {a b c d e : Int32} : wL (nwR w n a b c d e) (1300 + n) = [] := by
  show wL (lsW (nO w (1200 + n) 9) (1200 + n) 517 (1300 + n)) (1300 + n) = []
  rw [lsW_L, if_pos rfl]
theorem nwR_lw {w : AW} {n : Nat} {a b c d e : Int32} (hC : CIv w) (ht : wT w (1200 + n) = 0) (hx : wT w (1300 + n) = 0) : LW (nwR w n a b c d e) (1300 + n) := ⟨ci_C (nwR_ci hC ht hx), by rw [nwR_T, if_pos rfl], by rw [nwR_ln]; decide, by rw [nwR_ln]; exact fun q hq => absurd hq List.not_mem_nil⟩
theorem nwR_l {w : AW} {n : Nat} {a b c d e : Int32} (hC : CIv w) (ht : wT w (1200 + n) = 0) (hx : wT w (1300 + n) = 0) : wL (nwR w n a b c d e) 202 = wL w 202 ∧ ct (nwR w n a b c d e) 202 = ct w 202 := by
  have e := (nwR_ag (a := a) (b := b) (c := c) (d := d) (e := e) ht hx).L (ci_rooms hC).1 (by decide)
  exact ⟨e, congrArg List.length e⟩
theorem nwR_R {w : AW} {n k : Nat} {a b c d e : Int32} (hk : k ≠ 517) : wR (nwR w n a b c d e) k (1200 + n) = none := by
  show wR (sR (sL (sT (nO (nO w (1200 + n) 9) (1300 + n) 1) (1300 + n) 40) (1300 + n) []) 517 (1200 + n) (some (1300 + n))) k (1200 + n) = none
  rw [wR_sR, if_neg hk]
  show wR (nO (nO w (1200 + n) 9) (1300 + n) 1) k (1200 + n) = none
  rw [wR_nO, if_neg (by omega), wR_nO, if_pos rfl]
theorem nwR_k {w : AW} {n : Nat} {a b c d e : Int32} : wR (nwR w n a b c d e) 517 (1200 + n) = some (1300 + n) := by
  show wR (sR (sL (sT (nO (nO w (1200 + n) 9) (1300 + n) 1) (1300 + n) 40) (1300 + n) []) 517 (1200 + n) (some (1300 + n))) 517 (1200 + n) = _
  rw [wR_sR, if_pos rfl, if_pos rfl]
theorem nwR_t {w : AW} {n : Nat} {a b c d e : Int32} : wT (nwR w n a b c d e) (1200 + n) = 9 := by rw [nwR_T, if_neg (by omega), if_pos rfl]
def nwC (w : AW) (n : Nat) (a b : Int32) : AW := (sI (sI (sI (lsW (nO w (1700 + n) 4) (1700 + n) 194 (1800 + n)) 195 (1700 + n) (-1)) 192 (1700 + n) a) 193 (1700 + n) b)
theorem nwC_is (w : AW) (n : Nat) (a b : Int32) : (sI (sI (sI (lsW (nO w (1700 + n) 4) (1700 + n) 194 (1800 + n)) 195 (1700 + n) (-1)) 192 (1700 + n) a) 193 (1700 + n) b) = nwC w n a b := rfl
theorem nwC_ag {w : AW} {n : Nat} {a b : Int32} (ht : wT w (1700 + n) = 0) (hx : wT w (1800 + n) = 0) : AG w (nwC w n a b) := by
  have hx2 : wT (nO w (1700 + n) 4) (1800 + n) = 0 := by rw [wT_nO, if_neg (by omega)]; exact hx
  have g := lsW_ag (k := 194) (t := 1700 + n) (ag_nO (AG.refl w) (t := 4) ht) ht hx2 hx
  exact ((g.oI ht).oI ht).oI ht
theorem nwC_T {w : AW} {n y : Nat} {a b : Int32} : wT (nwC w n a b) y = if y = 1800 + n then 40 else if y = 1700 + n then 4 else wT w y := by
  show wT (lsW (nO w (1700 + n) 4) (1700 + n) 194 (1800 + n)) y = _
  rw [lsW_T, wT_nO]
theorem nwC_ci {w : AW} {n : Nat} {a b : Int32} (hC : CIv w) (ht : wT w (1700 + n) = 0) (hx : wT w (1800 + n) = 0) : CIv (nwC w n a b) := (nwC_ag ht hx).ci hC (by rw [nwC_T, if_neg (by omega), if_neg (by omega)]; exact (ci_C hC).2.2.1) (by rw [nwC_T, if_neg (by omega), if_neg (by omega)]; exact (ci_C hC).2.2.2)
theorem nwC_ln {w : AW} {n : Nat} {a b : Int32} : wL (nwC w n a b) (1800 + n) = [] := by
  show wL (lsW (nO w (1700 + n) 4) (1700 + n) 194 (1800 + n)) (1800 + n) = []
  rw [lsW_L, if_pos rfl]
theorem nwC_lw {w : AW} {n : Nat} {a b : Int32} (hC : CIv w) (ht : wT w (1700 + n) = 0) (hx : wT w (1800 + n) = 0) : LW (nwC w n a b) (1800 + n) := ⟨ci_C (nwC_ci hC ht hx), by rw [nwC_T, if_pos rfl], by rw [nwC_ln]; decide, by rw [nwC_ln]; exact fun q hq => absurd hq List.not_mem_nil⟩
theorem nwC_l {w : AW} {n : Nat} {a b : Int32} (hC : CIv w) (ht : wT w (1700 + n) = 0) (hx : wT w (1800 + n) = 0) : wL (nwC w n a b) 205 = wL w 205 ∧ ct (nwC w n a b) 205 = ct w 205 := by
  have e := (nwC_ag (a := a) (b := b) ht hx).L (ci_crates hC).1 (by decide)
  exact ⟨e, congrArg List.length e⟩
theorem nwC_R {w : AW} {n k : Nat} {a b : Int32} (hk : k ≠ 194) : wR (nwC w n a b) k (1700 + n) = none := by
  show wR (sR (sL (sT (nO (nO w (1700 + n) 4) (1800 + n) 1) (1800 + n) 40) (1800 + n) []) 194 (1700 + n) (some (1800 + n))) k (1700 + n) = none
  rw [wR_sR, if_neg hk]
  show wR (nO (nO w (1700 + n) 4) (1800 + n) 1) k (1700 + n) = none
  rw [wR_nO, if_neg (by omega), wR_nO, if_pos rfl]
theorem nwC_k {w : AW} {n : Nat} {a b : Int32} : wR (nwC w n a b) 194 (1700 + n) = some (1800 + n) := by
  show wR (sR (sL (sT (nO (nO w (1700 + n) 4) (1800 + n) 1) (1800 + n) 40) (1800 + n) []) 194 (1700 + n) (some (1800 + n))) 194 (1700 + n) = _
  rw [wR_sR, if_pos rfl, if_pos rfl]
theorem nwC_t {w : AW} {n : Nat} {a b : Int32} : wT (nwC w n a b) (1700 + n) = 4 := by rw [nwC_T, if_neg (by omega), if_pos rfl]
theorem nwW_wk {w : AW} {n : Nat} {a b c d e : Int32} (hC : CIv w) (ht : wT w (1000 + n) = 0) (hx : wT w (1100 + n) = 0) (ha : vp_in a 10) : WK (nwW w n a b c d e) n := by
  refine ⟨nwW_t, nwW_k, nwW_lw hC ht hx, by rw [nwW_ln]; exact fun q hq => absurd hq List.not_mem_nil, ?_, ?_, Or.inl (nwW_R (by decide))⟩
  · unfold nwW
    simp only [wI_sI, if_pos, Nat.reduceEqDiff, if_false]
  · have z : wI (nwW w n a b c d e) 641 (1000 + n) = a := by
      unfold nwW
      simp only [wI_sI, if_pos, Nat.reduceEqDiff, if_false]
    rw [z]; exact ha
theorem nwR_rm {w : AW} {n : Nat} {a b c d e : Int32} (hC : CIv w) (ht : wT w (1200 + n) = 0) (hx : wT w (1300 + n) = 0) : RMp (nwR w n a b c d e) n := by
  refine ⟨nwR_t, nwR_k, nwR_lw hC ht hx, by rw [nwR_ln]; exact fun q hq => absurd hq List.not_mem_nil, Or.inl (nwR_R (by decide)), ?_⟩
  have z : wI (nwR w n a b c d e) 519 (1200 + n) = 0 := by
    unfold nwR
    simp only [wI_sI, Nat.reduceEqDiff, if_false]
    show wI (nO (nO w (1200 + n) 9) (1300 + n) 1) 519 (1200 + n) = 0
    rw [wI_nO, if_neg (by omega), wI_nO, if_pos rfl]
  rw [z]; exact vp_in_nI (n := 0) (by decide) (by decide)
theorem nwC_cr {w : AW} {n : Nat} {a b : Int32} (hC : CIv w) (ht : wT w (1700 + n) = 0) (hx : wT w (1800 + n) = 0) : CRp (nwC w n a b) n := by
  refine ⟨nwC_t, nwC_k, nwC_lw hC ht hx, by rw [nwC_ln]; exact fun q hq => absurd hq List.not_mem_nil, ?_⟩
  unfold ct
  rw [nwC_ln]; decide
