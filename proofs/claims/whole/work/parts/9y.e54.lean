/-! ===== behind both constructors ===== -/
/-- the script's world: its ints at 224, the constants -/
def lw_w0 (n : Nat) (xs : Nat → Int32) : AW := (fun x => if x = 224 then 51 else if (10 ≤ x ∧ x < 26) ∨ (30 ≤ x ∧ x < 36) then 50 else 0, fun _ _ => 0, fun _ _ => none, fun x => if x = 224 then n else 0, fun x i => if x = 224 then xs i else 0, fun _ _ => 0, fun _ _ => none, fun _ => [])
def Zw (g : Nat → Nat) (w : AW) : Prop := (∀ x i, x ≠ 224 → wA w x i = 0) ∧ (∀ k x, wI w k x = 0) ∧ (∀ x, wL w x = []) ∧ ∀ x, 222 < x → wT w x = g x
section
variable {g : Nat → Nat} {w : AW}
theorem Zw.nO {i t : Nat} (h : Zw g w) (hi : i ≤ 222) : Zw g (nO w i t) := by
  refine ⟨h.1, fun k x => ?_, fun x => ?_, fun x hx => ?_⟩
  · rw [wI_nO]; split <;> first | rfl | exact h.2.1 k x
  · rw [wL_nO]; split <;> first | rfl | exact h.2.2.1 x
  · rw [wT_nO, if_neg (by omega)]; exact h.2.2.2 x hx
theorem Zw.nA {i t n : Nat} (h : Zw g w) (hi : i ≤ 222) : Zw g (nA w i t n) := by
  refine ⟨fun x i' hx => ?_, fun k x => ?_, fun x => ?_, fun x hx => ?_⟩
  · rw [wA_nA]; split <;> first | rfl | exact h.1 x i' hx
  · rw [wI_nA]; split <;> first | rfl | exact h.2.1 k x
  · rw [wL_nA]; split <;> first | rfl | exact h.2.2.1 x
  · rw [wT_nA, if_neg (by omega)]; exact h.2.2.2 x hx
theorem Zw.sR {k i : Nat} {v : Option Nat} (h : Zw g w) : Zw g (sR w k i v) := ⟨h.1, h.2.1, h.2.2.1, h.2.2.2⟩
theorem Zw.ar {t k x T n : Nat} (h : Zw g w) (hx : x ≤ 222) : Zw g (arW w t k x T n) := (h.nA hx).sR
theorem Zw.ls {t k x : Nat} (h : Zw g w) (hx : x ≤ 222) : Zw g (lsW w t k x) := by
  have h1 := h.nO (i := x) (t := 1) hx
  refine Zw.sR ⟨h1.1, h1.2.1, fun y => ?_, fun y hy => ?_⟩
  · rw [wL_sL]; split <;> first | rfl | exact h1.2.2.1 y
  · rw [wT_sL, wT_sT, if_neg (by omega)]; exact h1.2.2.2 y hy
theorem Zw.of (h : Zw g w) : Zw g (ofW w) := by
  unfold ofW ofH hgW ofB bkW ofL
  refine Zw.ar (Zw.ar (Zw.ar ?_ (by decide)) (by decide)) (by decide)
  refine Zw.sR ?_
  refine Zw.ar (Zw.ar (Zw.ar (Zw.ar (Zw.ar (Zw.ar (Zw.ar ?_ (by decide)) (by decide)) (by decide)) (by decide)) (by decide)) (by decide)) (by decide)
  refine Zw.nO ?_ (by decide)
  refine Zw.sR ?_
  refine Zw.ar (Zw.ar (Zw.ar ?_ (by decide)) (by decide)) (by decide)
  refine Zw.nO ?_ (by decide)
  refine Zw.ar ?_ (by decide)
  exact Zw.ls (Zw.ls (Zw.ls (Zw.ls (Zw.ls h (by decide)) (by decide)) (by decide)) (by decide)) (by decide)
theorem Zw.rf (h : Zw g w) : Zw g (rfB w) := by
  unfold rfB
  iterate 44 refine Zw.ar ?_ (by decide)
  exact h
end
theorem AG.ar {w v : AW} {t k x T n : Nat} (g : AG w v) (h1 : wT w t = 0) (h2 : wT w x = 0) : AG w (arW v t k x T n) := fun y hy => by
  have e1 : y ≠ t := fun z => hy (by rw [z]; exact h1)
  have e2 : y ≠ x := fun z => hy (by rw [z]; exact h2)
  obtain ⟨a1, a2, a3, a4, a5⟩ := g y hy
  unfold arW
  refine ⟨?_, ?_, ?_, fun k' => ?_, fun k' => ?_⟩
  · rw [wT_sR, wT_nA, if_neg e2]; exact a1
  · rw [wN_sR, wN_nA, if_neg e2]; exact a2
  · rw [wL_sR, wL_nA, if_neg e2]; exact a3
  · rw [wR_sR, if_neg e1, ite_self, wR_nA, if_neg e2]; exact a4 k'
  · rw [wI_sR, wI_nA, if_neg e2]; exact a5 k'
theorem AG.rf {w v : AW} (g : AG w v) (h1 : wT w 100 = 0) (h2 : ∀ x, 101 ≤ x → x < 160 → wT w x = 0) : AG w (rfB v) := by
  unfold rfB
  iterate 44 refine AG.ar ?_ h1 (h2 _ (by decide) (by decide))
  exact g
theorem rfB_T {w : AW} {x : Nat} (h : x < 101 ∨ 159 < x) : wT (rfB w) x = wT w x := by
  have ar : ∀ (v : AW) (t k y T n : Nat), x ≠ y → wT (arW v t k y T n) x = wT v x := fun v t k y T n e => by
    unfold arW
    rw [wT_sR, wT_nA, if_neg e]
  unfold rfB
  iterate 44 rw [ar _ _ _ _ _ _ (by omega)]
theorem shF_I (u : AW) (x : Nat) : ∀ k, wI (shF u x k) = wI u
  | 0 => rfl
  | k + 1 => (show wI (sA (shF u x k) x k (-1)) = wI (shF u x k) from rfl).trans (shF_I u x k)
theorem rfL_le : ∀ q ∈ rfL, q.1 < 59 := by decide
theorem rng0 (n : Nat) : rng 0 n := ⟨0, Nat.zero_le _, rfl⟩
theorem lw_T {n : Nat} {xs : Nat → Int32} (x : Nat) : wT (lw_w0 n xs) x = if x = 224 then 51 else if (10 ≤ x ∧ x < 26) ∨ (30 ≤ x ∧ x < 36) then 50 else 0 := rfl
theorem lw_z {n : Nat} {xs : Nat → Int32} : Zw (wT (lw_w0 n xs)) (lw_w0 n xs) := ⟨fun x i h => if_neg h, fun _ _ => rfl, fun _ => rfl, fun _ _ => rfl⟩
theorem lw_lc {n : Nat} {xs : Nat → Int32} : LC (nO (lw_w0 n xs) 200 12) := ⟨rfl, rfl, rfl, rfl⟩
theorem lw_kc {n : Nat} {xs : Nat → Int32} : KC (nO (lw_w0 n xs) 200 12) := by
  refine ⟨fun k hk => ?_, rfl, rfl⟩
  have z : ∀ x, ((10 ≤ x ∧ x < 26) ∨ (30 ≤ x ∧ x < 36)) → wT (nO (lw_w0 n xs) 200 12) x = 50 := fun x hx => by
    rw [wT_nO, if_neg (by omega), lw_T, if_neg (by omega), if_pos hx]
  exact ⟨z _ (by omega), z _ (by omega), z _ (by omega)⟩
def lw_w4 (n : Nat) (xs : Nat → Int32) : AW := shF (rfB (nO (ofW (nO (lw_w0 n xs) 200 12)) 100 13)) 118 40
def lw_w5 (n : Nat) (xs : Nat → Int32) : AW := nA (lw_w4 n xs) 222 22 1
section
variable {n : Nat} {xs : Nat → Int32}
theorem of0_T {x : Nat} (h : x < 200 ∨ 221 < x) : wT (ofW (nO (lw_w0 n xs) 200 12)) x = wT (lw_w0 n xs) x := by
  rw [ofW_T (by omega), wT_nO, if_neg (by omega)]
theorem of0_z {x : Nat} (h : 36 ≤ x ∧ x < 200 ∨ 221 < x ∧ x ≠ 224) : wT (ofW (nO (lw_w0 n xs) 200 12)) x = 0 := by
  rw [of0_T (by omega), lw_T, if_neg (by omega), if_neg (by omega)]
theorem w4_T {x : Nat} (h : x < 100 ∨ 159 < x) : wT (lw_w4 n xs) x = wT (ofW (nO (lw_w0 n xs) 200 12)) x := by
  unfold lw_w4
  rw [shF_T, rfB_T (by omega), wT_nO, if_neg (by omega)]
theorem w5_ag : AG (ofW (nO (lw_w0 n xs) 200 12)) (lw_w5 n xs) := by
  have h1 : wT (ofW (nO (lw_w0 n xs) 200 12)) 100 = 0 := of0_z (by omega)
  have g2 := AG.rf (AG.nO (i := 100) (t := 13) h1) h1 (fun x a b => of0_z (by omega))
  have g3 : AG _ (lw_w4 n xs) := shF_ag g2 118 40
  refine g3.trans (AG.nA ?_)
  rw [w4_T (by omega)]
  exact of0_z (by omega)
theorem w5_T {x : Nat} (h : x < 100 ∨ 159 < x) (h2 : x ≠ 222) : wT (lw_w5 n xs) x = wT (ofW (nO (lw_w0 n xs) 200 12)) x := by
  unfold lw_w5
  rw [wT_nA, if_neg h2, w4_T h]
theorem w5_ci : CIv (lw_w5 n xs) := by
  refine w5_ag.ci (ofW_ci rfl lw_lc lw_kc) ?_ ?_
  · rw [w5_T (by omega) (by decide)]; exact of0_z (by omega)
  · rw [w5_T (by omega) (by decide)]; exact of0_z (by omega)
theorem w5_ri : RI (lw_w5 n xs) := by
  have h : RI (lw_w4 n xs) := rfB_ri (by rw [wT_nO, if_pos rfl])
  refine ⟨?_, fun q hq => ?_⟩
  · unfold lw_w5
    rw [wT_nA, if_neg (by decide)]; exact h.1
  · have hl := rfL_le q hq
    obtain ⟨a, b, c⟩ := h.2 q hq
    unfold lw_w5
    rw [wR_nA, wT_nA, wN_nA, if_neg (by decide), if_neg (by omega), if_neg (by omega)]
    exact ⟨a, b, c⟩
theorem w3_z : Zw (wT (lw_w0 n xs)) (rfB (nO (ofW (nO (lw_w0 n xs) 200 12)) 100 13)) := Zw.rf (Zw.nO (Zw.of (Zw.nO lw_z (by decide))) (by decide))
theorem w5_A {x i : Nat} (h1 : x ≠ 224) (h2 : x ≠ 118) : wA (lw_w5 n xs) x i = 0 := by
  unfold lw_w5 lw_w4
  rw [wA_nA]
  split
  · rfl
  · rw [shF_A' _ _ _ h2]; exact w3_z.1 x i h1
theorem w5_A118 {i : Nat} (h : i < 40) : wA (lw_w5 n xs) 118 i = -1 := by
  unfold lw_w5 lw_w4
  rw [wA_nA, if_neg (by decide), shF_A _ _ _ _ h]
theorem w5_I (k x : Nat) : wI (lw_w5 n xs) k x = 0 := by
  unfold lw_w5 lw_w4
  rw [wI_nA]
  split
  · rfl
  · rw [shF_I]; exact w3_z.2.1 k x
theorem w5_L (x : Nat) : wL (lw_w5 n xs) x = [] := by
  unfold lw_w5 lw_w4
  rw [wL_nA]
  split
  · rfl
  · rw [shF_L]; exact w3_z.2.2.1 x
theorem w5_ct (x : Nat) : ct (lw_w5 n xs) x = 0 := by unfold ct; rw [w5_L]; rfl
theorem w5_f {x : Nat} (h : 224 < x) : wT (lw_w5 n xs) x = 0 := by
  rw [w5_T (by omega) (by omega)]; exact of0_z (by omega)
theorem rel0 : Rel 0 (lw_w5 n xs) := by
  have v0 : ∀ {m : Nat}, 0 < m → m < 2 ^ 31 → vp_in 0 m := fun a b => vp_in_nI (n := 0) a b
  refine ⟨w5_ci, w5_ri, ?_, ?_, ?_, ?_, ?_, ?_, ?_, ?_, ?_, ?_, ?_, ?_, ?_, ?_, ?_, ?_, ?_, ?_, ?_⟩
  · unfold RB
    simp only [w5_I]
    refine ⟨rng0 _, rng0 _, rng0 _, rng0 _, rng0 _, rng0 _, rng0 _, rng0 _, fun j _ => ?_, fun j _ => ?_, fun j _ => ?_, fun j _ => ?_, fun j _ => ?_, fun j hj => Or.inl (w5_A118 hj), fun j _ => Or.inr ?_⟩
    · rw [w5_A (by decide) (by decide)]; exact rng0 _
    · rw [w5_A (by decide) (by decide)]; exact v0 (by decide) (by decide)
    · rw [w5_A (by decide) (by decide)]; exact rng0 _
    · rw [w5_A (by decide) (by decide)]; exact v0 (by decide) (by decide)
    · rw [w5_A (by decide) (by decide)]; exact rng0 _
    · rw [w5_A (by decide) (by decide)]; exact rng0 _
  · have z : ∀ k x t, wI (lw_w5 n xs) k x = nI (ct (lw_w5 n xs) t) := fun k x t => by rw [w5_I, w5_ct]; rfl
    exact ⟨z _ _ _, z _ _ _, z _ _ _, z _ _ _, z _ _ _, by rw [w5_I, w5_I], by rw [w5_I, w5_I]⟩
  · intro a ha; rw [w5_ct] at ha; omega
  · intro a ha; rw [w5_ct] at ha; omega
  · intro a ha; rw [w5_ct] at ha; omega
  · intro a ha; rw [w5_ct] at ha; omega
  · intro i _
    rw [w5_A (by decide) (by decide), w5_A (by decide) (by decide), w5_A (by decide) (by decide), w5_A (by decide) (by decide)]
    exact ⟨rfl, rfl⟩
  · refine ⟨fun q k hq => ?_, fun j hj _ => w5_A118 hj⟩
    rw [w5_ct] at hq; omega
  · intro a ha; rw [w5_ct] at ha; omega
  · exact ⟨fun a ha => by rw [w5_ct] at ha; omega, fun a ha => by rw [w5_ct] at ha; omega⟩
  · intro a ha; rw [w5_ct] at ha; omega
  · refine ⟨fun a ha => by rw [w5_ct] at ha; omega, fun j hj => ?_⟩
    rw [w5_I] at hj
    exact absurd hj (Nat.not_lt_zero j)
  · exact ⟨⟨0, by omega, w5_I _ _⟩, fun a ha => by rw [w5_ct] at ha; omega, 0, 0, by omega, by omega, w5_I _ _, w5_I _ _⟩
  · intro i hi
    rw [w5_I] at hi
    exact absurd hi (Nat.not_lt_zero i)
  · refine ⟨by rw [w5_I, w5_I], fun k _ => ?_⟩
    rw [w5_A (by decide) (by decide), w5_A (by decide) (by decide), w5_A (by decide) (by decide), w5_A (by decide) (by decide), w5_A (by decide) (by decide), w5_A (by decide) (by decide)]
    exact ⟨rfl, rfl, rfl⟩
  · refine ⟨fun a _ _ => ⟨w5_f (by omega), w5_f (by omega)⟩, fun a _ _ => ⟨w5_f (by omega), w5_f (by omega)⟩, fun a _ _ => ⟨w5_f (by omega), w5_f (by omega), w5_f (by omega)⟩, fun a _ _ => ⟨w5_f (by omega), w5_f (by omega)⟩, fun a _ _ => ⟨w5_f (by omega), w5_f (by omega), fun i _ => w5_f (by omega)⟩, ?_, fun a _ => w5_f (by omega)⟩
    rw [w5_T (by omega) (by decide)]; exact of0_z (by omega)
  · refine ⟨fun r _ _ => ⟨w5_A (by decide) (by decide), w5_A (by decide) (by decide)⟩, fun r _ _ => w5_A (by decide) (by decide), fun r _ _ => ?_⟩
    rw [w5_A (by decide) (by decide)]; decide
  · intro a ha; rw [w5_ct] at ha; omega
  · refine ⟨?_, ?_, ?_⟩
    · unfold lw_w5; rw [wT_nA, if_pos rfl]
    · unfold lw_w5; rw [wN_nA, if_pos rfl]
    · rw [w5_T (by omega) (by decide), of0_T (by omega)]; rfl
end
