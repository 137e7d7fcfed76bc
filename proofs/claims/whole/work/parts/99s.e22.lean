section
variable {ks rs : List Nat} {ls : Nat → Prop} {w u : AW}
theorem AX.oF (g : AX ks rs ls w u) {x : Nat} (h : wT w x = 0) : ∀ k, AX ks rs ls w (shF u x k)
  | 0 => g
  | k + 1 => (AX.oF g h k).oA (Or.inl h)
theorem shF_A (u : AW) (x j : Nat) : ∀ k, j < k → wA (shF u x k) x j = -1
  | 0, h => absurd h (Nat.not_lt_zero _)
  | k + 1, h => by
    rw [shF, wA_sA, if_pos rfl]
    by_cases e : j = k
    · rw [if_pos e]
    · rw [if_neg e]; exact shF_A u x j k (by omega)
theorem shF_A' (u : AW) (x y : Nat) (h : y ≠ x) : ∀ k, wA (shF u x k) y = wA u y
  | 0 => rfl
  | k + 1 => by
    funext j
    rw [shF, wA_sA, if_neg h, shF_A' u x y h k]
theorem nwS_ax {n : Nat} (ht : wT w (1400 + n) = 0) (hx : wT w (1500 + n) = 0) (hy : wT w (1600 + n) = 0) : AX ks rs ls w (nwS w n) := AX.oF (((((AX.refl.mO ht).mA hx).oR (Or.inl ht)).mA hy).oR (Or.inl ht)) hx _
theorem lsW_ax (g : AX ks rs ls w u) {t k x : Nat} (ht : wT w t = 0) (hx : wT w x = 0) : AX ks rs ls w (lsW u t k x) := (((g.mO hx).oT hx).oL (Or.inl hx)).oR (Or.inl ht)
theorem nwR_ax {n : Nat} {a b c d e : Int32} (ht : wT w (1200 + n) = 0) (hx : wT w (1300 + n) = 0) : AX ks rs ls w (nwR w n a b c d e) := (((((lsW_ax (AX.refl.mO ht) ht hx).oI (Or.inl ht)).oI (Or.inl ht)).oI (Or.inl ht)).oI (Or.inl ht)).oI (Or.inl ht)
theorem nwC_ax {n : Nat} {a b : Int32} (ht : wT w (1700 + n) = 0) (hx : wT w (1800 + n) = 0) : AX ks rs ls w (nwC w n a b) := (((lsW_ax (AX.refl.mO ht) ht hx).oI (Or.inl ht)).oI (Or.inl ht)).oI (Or.inl ht)
theorem nwW_ax {n : Nat} {a b c d e : Int32} (ht : wT w (1000 + n) = 0) (hx : wT w (1100 + n) = 0) : AX ks rs ls w (nwW w n a b c d e) := ((((((lsW_ax (AX.refl.mO ht) ht hx).oI (Or.inl ht)).oI (Or.inl ht)).oI (Or.inl ht)).oI (Or.inl ht)).oI (Or.inl ht)).oI (Or.inl ht)
end
theorem CIv_784 (w : AW) (v : Int32) : CIv (sI w 784 100 v) = CIv w := rfl
theorem CIv_787 (w : AW) (v : Int32) : CIv (sI w 787 100 v) = CIv w := rfl
theorem CIv_809 (w : AW) (v : Int32) : CIv (sI w 809 100 v) = CIv w := rfl
theorem CIv_770 (w : AW) (v : Int32) : CIv (sI w 770 100 v) = CIv w := rfl
theorem CIv_771 (w : AW) (v : Int32) : CIv (sI w 771 100 v) = CIv w := rfl
theorem ru_sheet {n : Nat} {w u : AW} (h : Rel n w) (hq : ct w 203 < 4) (g : AX [768, 784] [] (fun x => x = 203) w u) (hc : ct u 203 = ct w 203 + 1) (hI : CIv u) (hT : ∀ x, ¬ (x = 1400 + ct w 203 ∨ x = 1500 + ct w 203 ∨ x = 1600 + ct w 203) → wT u x = wT w x) (hA1 : ∀ k, k < 10 → wA u (1500 + ct w 203) k = -1) (h784 : wI u 784 100 = nI (ct w 203 + 1)) : Rel (n + 1) u := by
  have hC := h.ci
  have hR := h.ri
  refine ⟨hI, g.xri hR (by decide), g.xrk hR h.rb (Or.inl (by decide)) (Or.inl (by decide)) (Or.inr (⟨ct w 203 + 1, hq, h784⟩)) (Or.inl (by decide)) (Or.inl (by decide)) (Or.inl (by decide)) (Or.inl (by decide)) (Or.inl (by decide)) (Or.inl (by decide)) (Or.inl (by decide)) (Or.inl (by decide)) (Or.inl (by decide)) (Or.inl (by decide)) (Or.inl (by decide)) (Or.inl (by decide)), ?_, g.xw hC hR h.wk (by first | omega | (intro _ _; omega) | (dsimp only; omega) | (intro _ _; dsimp only; omega)) (by decide) (by decide), g.xl hC hR h.l (by first | omega | (intro _ _; omega) | (dsimp only; omega) | (intro _ _; dsimp only; omega)) (by first | omega | (intro _ _; omega) | (dsimp only; omega) | (intro _ _; dsimp only; omega)) (by decide) (by decide), g.xr hC hR h.r (by first | omega | (intro _ _; omega) | (dsimp only; omega) | (intro _ _; dsimp only; omega)) (by first | omega | (intro _ _; omega) | (dsimp only; omega) | (intro _ _; dsimp only; omega)) (by decide) (by decide), g.xk hC hR h.k (by first | omega | (intro _ _; omega) | (dsimp only; omega) | (intro _ _; dsimp only; omega)) (by first | omega | (intro _ _; omega) | (dsimp only; omega) | (intro _ _; dsimp only; omega)) (by decide) (by decide), g.xu hC hR h.u (by decide) (by decide) (by decide), ?_, g.xa hC hR h.a (by first | omega | (intro _ _; omega) | (dsimp only; omega) | (intro _ _; dsimp only; omega)) (by omega) (by decide) (by decide), g.xg hC hR h.g (by first | omega | (intro _ _; omega) | (dsimp only; omega) | (intro _ _; dsimp only; omega)) (by first | omega | (intro _ _; omega) | (dsimp only; omega) | (intro _ _; dsimp only; omega)) (by first | omega | (intro _ _; omega) | (dsimp only; omega) | (intro _ _; dsimp only; omega)) (by decide), g.xd hC hR h.d (by first | omega | (intro _ _; omega) | (dsimp only; omega) | (intro _ _; dsimp only; omega)) (by first | omega | (intro _ _; omega) | (dsimp only; omega) | (intro _ _; dsimp only; omega)) (by first | omega | (intro _ _; omega) | (dsimp only; omega) | (intro _ _; dsimp only; omega)) (by decide), g.xn hC hR h.n (by first | omega | (intro _ _; omega) | (dsimp only; omega) | (intro _ _; dsimp only; omega)) (by first | omega | (intro _ _; omega) | (dsimp only; omega) | (intro _ _; dsimp only; omega)) (by decide) (by decide), (g.xm hC hR h.m (by first | omega | (intro _ _; omega) | (dsimp only; omega) | (intro _ _; dsimp only; omega)) (by first | omega | (intro _ _; omega) | (dsimp only; omega) | (intro _ _; dsimp only; omega)) (by decide)).up, g.xt hC hR h.t (by decide) (by decide) (by decide), g.xb hC hR h.b (by decide) (by decide) (by decide), RLf.st h.f (fun x => x = 1400 + ct w 203 ∨ x = 1500 + ct w 203 ∨ x = 1600 + ct w 203) (hT) (Nat.le_of_eq (g.c1 hC (by first | omega | (intro _ _; omega) | (dsimp only; omega) | (intro _ _; dsimp only; omega))).symm) (Nat.le_of_eq (g.c2 hC (by first | omega | (intro _ _; omega) | (dsimp only; omega) | (intro _ _; dsimp only; omega))).symm) (by omega) (Nat.le_of_eq (g.c4 hC (by first | omega | (intro _ _; omega) | (dsimp only; omega) | (intro _ _; dsimp only; omega))).symm) (Nat.le_of_eq (g.c5 hC (by first | omega | (intro _ _; omega) | (dsimp only; omega) | (intro _ _; dsimp only; omega))).symm) (Nat.le_of_eq (congrArg _ (g.I hR.1 (by decide) (by decide)).symm)) (by intro n a b; first | omega | (dsimp only; omega)) (by intro n a b; first | omega | (dsimp only; omega)) (by intro n a b; first | omega | (dsimp only; omega)) (by intro n a b; first | omega | (dsimp only; omega)) (by intro n a b; refine ⟨by first | omega | (dsimp only; omega), by first | omega | (dsimp only; omega), fun i hi => ?_⟩; first | omega | (dsimp only; omega)) (by first | omega | (dsimp only; omega)) (by intro n a; first | omega | (dsimp only; omega)), g.xv hC hR h.v (by first | omega | (intro _ _; omega) | (dsimp only; omega) | (intro _ _; dsimp only; omega)) (by first | omega | (intro _ _; omega) | (dsimp only; omega) | (intro _ _; dsimp only; omega)) (by first | omega | (intro _ _; omega) | (dsimp only; omega) | (intro _ _; dsimp only; omega)) (by decide), g.xz hC hR h.z (by first | omega | (intro _ _; omega) | (dsimp only; omega) | (intro _ _; dsimp only; omega)) (by decide), g.xo h.o⟩
  · obtain ⟨q1, q2, q3, q4, q5, q6, q7⟩ := h.c
    have a1 := g.i1 hR (l := [770, 787, 798, 809, 769, 797]) (by decide)
    have a2 := g.i2 hC (l := [716, 715]) (by decide)
    unfold RLc
    rw [hc, h784, g.c1 hC (by first | omega | (intro _ _; omega) | (dsimp only; omega) | (intro _ _; dsimp only; omega)), g.c2 hC (by first | omega | (intro _ _; omega) | (dsimp only; omega) | (intro _ _; dsimp only; omega)), g.c4 hC (by first | omega | (intro _ _; omega) | (dsimp only; omega) | (intro _ _; dsimp only; omega)), g.c5 hC (by first | omega | (intro _ _; omega) | (dsimp only; omega) | (intro _ _; dsimp only; omega))]
    simp (disch := decide) only [a1, a2]
    exact ⟨q1, q2, trivial, q4, q5, q6, q7⟩
  · have aA := g.rows hR (l := [118, 119]) (by decide) (by decide)
    unfold RLs
    rw [hc]
    simp (disch := decide) only [aA]
    refine ⟨fun q k hq' hk => ?_, fun j a b => h.s.2 j a (by omega)⟩
    by_cases e : q = ct w 203
    · subst e
      rw [hA1 k hk]
      refine ⟨h.s.2 _ (by omega) (by omega), fun i hi hj => ?_⟩
      exact absurd hi (Int32.not_lt.mpr (Int32.le_of_lt (Int32.lt_of_lt_of_le (by decide : (-1 : Int32) < 0) (nI_pos' (by omega)))))
    · have hq2 : q < ct w 203 := by omega
      rw [g.A (ci_S hC hq2).2.2.1 (by decide) List.not_mem_nil, g.A (ci_S hC hq2).2.2.2.2.2.1 (by decide) List.not_mem_nil]
      exact h.s.1 q k hq2 hk
theorem rl_sheet {n : Nat} {w : AW} (h : Rel n w) (hq : ct w 203 < 4) : Rel (n + 1) (sI (sI (sL (nwS w (ct w 203)) 203 (wL w 203 ++ [1400 + ct w 203])) 768 100 0) 784 100 (nI (ct w 203 + 1))) := by
  obtain ⟨f1, f2, f3⟩ := h.f.2.2.1 _ (Nat.le_refl _) hq
  have hC := h.ci
  have hR := h.ri
  have g : AX [768, 784] [] (fun x => x = 203) w (sI (sI (sL (nwS w (ct w 203)) 203 (wL w 203 ++ [1400 + ct w 203])) 768 100 0) 784 100 (nI (ct w 203 + 1))) := by
    refine AX.oI ?_ (Or.inr (by decide))
    refine AX.oI ?_ (Or.inr (by decide))
    refine AX.oL ?_ (Or.inr rfl)
    exact nwS_ax f1 f2 f3
  have hc : ct (sI (sI (sL (nwS w (ct w 203)) 203 (wL w 203 ++ [1400 + ct w 203])) 768 100 0) 784 100 (nI (ct w 203 + 1))) 203 = ct w 203 + 1 := by
    unfold ct
    simp only [wL_sI, wL_sL, if_true, List.length_append]; rfl
  have hI : CIv (sI (sI (sL (nwS w (ct w 203)) 203 (wL w 203 ++ [1400 + ct w 203])) 768 100 0) 784 100 (nI (ct w 203 + 1))) := by
    rw [CIv_784, CIv_thr]
    have a := nwS_ag f1 f2 f3
    have e := a.L (ci_sheets hC).1 (by decide)
    have ec := a.ct (ci_sheets hC).1 (by decide)
    have q := CIv_addSheet (nwS_ci hC f1 f2 f3) (by rw [ec]; exact hq) (by rw [ec]; exact nwS_sh)
    rw [e, ec] at q; exact q
  have hT : ∀ x, ¬ (x = 1400 + ct w 203 ∨ x = 1500 + ct w 203 ∨ x = 1600 + ct w 203) → wT (sI (sI (sL (nwS w (ct w 203)) 203 (wL w 203 ++ [1400 + ct w 203])) 768 100 0) 784 100 (nI (ct w 203 + 1))) x = wT w x := fun x hx => by
    rw [wT_sI, wT_sI, wT_sL]
    rw [nwS_T, if_neg (by omega), if_neg (by omega), if_neg (by omega)]
  have hA1 : ∀ k, k < 10 → wA (sI (sI (sL (nwS w (ct w 203)) 203 (wL w 203 ++ [1400 + ct w 203])) 768 100 0) 784 100 (nI (ct w 203 + 1))) (1500 + ct w 203) k = -1 := fun k hk => by
    simp only [wA_sI, wA_sL]
    unfold nwS
    exact shF_A _ _ _ 10 hk
  have h784 : wI (sI (sI (sL (nwS w (ct w 203)) 203 (wL w 203 ++ [1400 + ct w 203])) 768 100 0) 784 100 (nI (ct w 203 + 1))) 784 100 = nI (ct w 203 + 1) := rfl
  exact ru_sheet h hq g hc hI hT hA1 h784

theorem nI_sub1 (j : Nat) : nI j + 1 - 1 = nI j := by
  rw [show (nI j + 1 : Int32) = nI j + nI 1 from rfl]
  exact Int32.add_sub_cancel _ _
theorem nI_succ1 (j : Nat) : nI j + 1 = nI (j + 1) := nI_add j 1
theorem pr_sheet {n : Nat} {w : AW} (h : Rel n w) (hn : n < 512) : sp_X11_sheet [.ref 200] w (PRd sp_X12_sheet [] n) := by
  rw [sq_X11_sheet]
  have e0 : wI w 784 100 = nI (ct w 203) := h.c.2.2.1
  refine ⟨⟨h.ci, fun z => h.f.2.2.1 _ (Nat.le_refl _) z⟩, fun hc => ?_, fun hc => ?_⟩
  · have e4 : ct w 203 = 4 := by have := (ci_sheets h.ci).2.2; omega
    refine ⟨h.o, _, rfl, ?_⟩
    rw [sq_X12_sheet, e0, e4]
    exact ⟨h.ri, fun _ => ⟨rfl, h.up.thr 0⟩, fun a => absurd rfl a⟩
  · obtain ⟨f1, f2, f3⟩ := h.f.2.2.1 _ (Nat.le_refl _) hc
    have g : AX [768, 784] [] (fun x => x = 203) w (sL (nwS w (ct w 203)) 203 (wL w 203 ++ [1400 + ct w 203])) := (nwS_ax f1 f2 f3).oL (Or.inr rfl)
    have e1 : wI (sL (nwS w (ct w 203)) 203 (wL w 203 ++ [1400 + ct w 203])) 784 100 = nI (ct w 203) := by
      rw [← e0]
      exact ((nwS_ax (ks := []) (rs := []) (ls := fun x => x = 203) f1 f2 f3).oL (Or.inr rfl)).I h.ri.1 (by decide) (by decide)
    refine ⟨g.xo h.o, _, rfl, ?_⟩
    rw [sq_X12_sheet, e1]
    refine ⟨g.xri h.ri (by decide), fun a => absurd a ?_, fun _ => ⟨?_, ?_⟩⟩
    · intro z
      have := (nI_eq (a := ct w 203) (b := 4) (by omega) (by decide)).mp z
      omega
    · rw [nI_sub1]
    · rw [nI_succ1]; exact rl_sheet h hc

