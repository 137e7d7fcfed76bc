theorem mrg_n (x : Option (Nat × List Nat)) : mrg x none = x := by cases x <;> rfl
theorem mayC_new {z : Nat} {c a : Nat → Int32} {ap : Nat → Nat → Bool} (hz : z ≤ 7) (ha : APR z a ap) {l x : Nat} {r : List Nat} (hr : ∀ y ∈ (l :: r), y < z) (hx : x < z) (h : mayC z c a (l :: r) x = true) : x ∉ (l :: r) := by
  unfold mayC at h
  rw [decide_eq_true_iff, fol_iff hz ha (mk_lt hz _ hr) (hr l List.mem_cons_self) hx ((mk_bit l _).mpr List.mem_cons_self) (fun y hy => hr y ((mk_bit y _).mp hy))] at h
  intro hm
  have := (mk_bit x (l :: r)).mpr hm
  rw [h.1] at this
  exact absurd this (by decide)
/-- the class's table holds what the best orders still cost -/
theorem hbG_val {m : Nat} {h c a : Nat → Int32} {H : Nat → Nat} {ap : Nat → Nat → Bool} (hm : m ≤ 7) (hH : ∀ i, H i ≤ 500) (hh : ∀ i, i < m → h i = nI (H i)) (ha : APR m a ap) : ∀ d l r, (l :: r).length + d = m → (l :: r).Nodup → (∀ y ∈ (l :: r), y < m) → hbG m h c a (mk (l :: r)) l = nI (gN H (Bst m (mayC m c a) H d (l :: r)) (l :: r))
  | 0, l, r, hlen, hn, hr => by
    have hl := hr l List.mem_cons_self
    rw [hbG_eq hm (mk_lt2 _ hr) (by omega), if_pos ((mk_full hn hr).mpr (by omega))]
    show (0 : Int32) = nI (costN H (l :: r) - costN H (l :: r))
    rw [Nat.sub_self]; rfl
  | d + 1, l, r, hlen, hn, hr => by
    have hl := hr l List.mem_cons_self
    have hS := mk_lt hm _ hr
    rw [hbG_eq hm (mk_lt2 _ hr) (by omega), if_neg (fun z => by have := (mk_full hn hr).mp z; omega), Bst]
    have hcl := costN_le hH (l :: r)
    have key : ∀ k, k ≤ m → lbF h (fun i => hbG m h c a (i / 7) (i % 7)) (fun i => mtI c i m) a (nI (mk (l :: r))) (nI l) k = nI (gN H (mrgK (fun i => if mayC m c a (l :: r) i = true then Bst m (mayC m c a) H d (i :: l :: r) else none) k) (l :: r)) := by
      intro k
      induction k with
      | zero => intro _; rfl
      | succ k ih =>
        intro hk
        have ih := ih (by omega)
        rw [lbF, ih, mrgK]
        have bnd : ∀ x, mrgK (fun i => if mayC m c a (l :: r) i = true then Bst m (mayC m c a) H d (i :: l :: r) else none) k = some x → costN H (l :: r) ≤ x.1 ∧ x.1 ≤ 4000 := mrgK_le (H := H) (fun i y hy => by
          by_cases g : mayC m c a (l :: r) i = true
          · rw [if_pos g] at hy
            have := Bst_le hH hm d (i :: l :: r) y (by rw [List.length_cons]; omega) hy
            exact ⟨Nat.le_trans (by rw [costN]; exact Nat.le_add_right _ _) this.1, this.2⟩
          · rw [if_neg g] at hy; cases hy) k
        generalize hX : mrgK (fun i => if mayC m c a (l :: r) i = true then Bst m (mayC m c a) H d (i :: l :: r) else none) k = X at bnd
        by_cases g : mayC m c a (l :: r) k = true
        · have g' : mfP (fun i => mtI c i m) a (nI (mk (l :: r))) (nI l) (nI k) := of_decide_eq_true g
          have hnk := mayC_new hm ha hr (by omega) g
          have ih2 := hbG_val (c := c) hm hH hh ha d k (l :: r) (by rw [List.length_cons]; omega) (List.nodup_cons.mpr ⟨hnk, hn⟩) (fun y hy => by
            rcases List.mem_cons.mp hy with e | e
            · rw [e]; omega
            · exact hr y e)
          have hHl := hH l
          have hHk := hH k
          have est : stF h (fun i => hbG m h c a (i / 7) (i % 7)) (nI (mk (l :: r))) (nI l) (nI k) = nI (cst H l k + gN H (Bst m (mayC m c a) H d (k :: l :: r)) (k :: l :: r)) := by
            rw [stF_is hS (by omega) (by omega), (hb_i7 (by omega)).1, (hb_i7 (by omega)).2, ← mk_c, ih2, hh l hl, hh k (by omega), nI_abs (by omega) (by omega), nI_add]; rfl
          have hck : costN H (k :: l :: r) = costN H (l :: r) + cst H l k := rfl
          have hcs : cst H l k ≤ 500 := by unfold cst; split <;> omega
          rw [if_pos g', est, if_pos g]
          have bB := fun y hy => Bst_le (may := mayC m c a) hH hm d (k :: l :: r) y (by rw [List.length_cons]; omega) hy
          generalize Bst m (mayC m c a) H d (k :: l :: r) = B at bB
          cases B with
          | none =>
            have hle : gN H X (l :: r) ≤ 1000000 := by
              cases X with
              | none => exact Nat.le_refl _
              | some x => have := bnd x rfl; show x.1 - costN H (l :: r) ≤ 1000000; omega
            rw [mrg_n, if_neg]
            intro z
            have z := (nI_ltI (by show cst H l k + 1000000 < 2 ^ 31; omega) (by omega)).mp z
            have z : cst H l k + 1000000 < gN H X (l :: r) := z
            omega
          | some y =>
            have hy := bB y rfl
            rw [hck] at hy
            have e9 : cst H l k + gN H (some y) (k :: l :: r) = y.1 - costN H (l :: r) := by
              show cst H l k + (y.1 - costN H (k :: l :: r)) = _
              rw [hck]; omega
            rw [e9]
            cases X with
            | none =>
              rw [if_pos]
              · rfl
              · show nI (y.1 - costN H (l :: r)) < nI 1000000
                exact (nI_ltI (by omega) (by decide)).mpr (by omega)
            | some x =>
              have hx := bnd x rfl
              show (if nI (y.1 - costN H (l :: r)) < nI (x.1 - costN H (l :: r)) then _ else _) = nI (gN H (if y.1 < x.1 then some y else some x) (l :: r))
              by_cases q : y.1 < x.1
              · rw [if_pos q, if_pos ((nI_ltI (by omega) (by omega)).mpr (by omega))]; rfl
              · rw [if_neg q, if_neg (fun z => q (by have := (nI_ltI (by omega) (by omega)).mp z; omega))]
        · have g' : ¬ mfP (fun i => mtI c i m) a (nI (mk (l :: r))) (nI l) (nI k) := fun z => g (decide_eq_true z)
          rw [if_neg g', if_neg g, mrg_n]
    exact key m (Nat.le_refl _)
