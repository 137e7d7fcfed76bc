theorem mrgK_some {f : Nat → Option (Nat × List Nat)} : ∀ k x, mrgK f k = some x → ∃ j, j < k ∧ f j = some x ∧ (∀ i, i < j → ∀ y, f i = some y → x.1 < y.1) ∧ ∀ i, i < k → ∀ y, f i = some y → x.1 ≤ y.1
  | 0, x, e => by cases e
  | k + 1, x, e => by
    rw [mrgK] at e
    cases h1 : mrgK f k with
    | none =>
      rw [h1] at e
      have e : f k = some x := e
      have hn : ∀ n, mrgK f n = none → ∀ i, i < n → f i = none := by
        intro n
        induction n with
        | zero => intro _ i hi; omega
        | succ n ih =>
          intro g i hi
          rw [mrgK] at g
          cases g1 : mrgK f n with
          | none =>
            rw [g1] at g
            by_cases e9 : i = n
            · rw [e9]; exact g
            · exact ih g1 i (by omega)
          | some y =>
            rw [g1] at g
            cases g2 : f n with
            | none => rw [g2] at g; cases g
            | some u =>
              rw [g2] at g
              have g : (if u.1 < y.1 then some u else some y) = none := g
              split at g <;> cases g
      refine ⟨k, by omega, e, fun i hi y hy => ?_, fun i hi y hy => ?_⟩
      · rw [hn k h1 i hi] at hy; cases hy
      · by_cases e9 : i = k
        · rw [e9, e] at hy; cases hy; exact Nat.le_refl _
        · rw [hn k h1 i (by omega)] at hy; cases hy
    | some y =>
      obtain ⟨j, j1, j2, j3, j4⟩ := mrgK_some k y h1
      rw [h1] at e
      cases h2 : f k with
      | none =>
        rw [h2] at e
        cases e
        refine ⟨j, by omega, j2, j3, fun i hi u hu => ?_⟩
        by_cases e9 : i = k
        · rw [e9, h2] at hu; cases hu
        · exact j4 i (by omega) u hu
      | some u =>
        rw [h2] at e
        have e : (if u.1 < y.1 then some u else some y) = some x := e
        by_cases q : u.1 < y.1
        · rw [if_pos q] at e
          cases e
          refine ⟨k, by omega, h2, fun i hi v hv => ?_, fun i hi v hv => ?_⟩
          · have := j4 i hi v hv; omega
          · by_cases e9 : i = k
            · rw [e9, h2] at hv; cases hv; exact Nat.le_refl _
            · have := j4 i (by omega) v hv; omega
        · rw [if_neg q] at e
          cases e
          refine ⟨j, by omega, j2, j3, fun i hi v hv => ?_⟩
          by_cases e9 : i = k
          · rw [e9, h2] at hv; cases hv; omega
          · exact j4 i (by omega) v hv
theorem mrgK_none {f : Nat → Option (Nat × List Nat)} : ∀ k, mrgK f k = none → ∀ i, i < k → f i = none
  | 0, _, i, hi => by omega
  | k + 1, g, i, hi => by
    rw [mrgK] at g
    cases g1 : mrgK f k with
    | none =>
      rw [g1] at g
      by_cases e9 : i = k
      · rw [e9]; exact g
      · exact mrgK_none k g1 i (by omega)
    | some y =>
      rw [g1] at g
      cases g2 : f k with
      | none => rw [g2] at g; cases g
      | some u =>
        rw [g2] at g
        have g : (if u.1 < y.1 then some u else some y) = none := g
        split at g <;> cases g
theorem lfF_first {v : Nat → Int32} {j : Nat} (h1 : ∀ i, i < j → v j < v i) : ∀ k, j < k → (∀ i, i < k → v j ≤ v i) → lfF v k = j
  | 0, h, _ => by omega
  | k + 1, h, h2 => by
    rw [lfF]
    by_cases e : j = k
    · subst e
      rcases Nat.eq_zero_or_pos j with z | z
      · subst z
        split
        · rfl
        · rfl
      · rw [if_pos (h1 _ (lfF_lt v j z))]
    · rw [lfF_first h1 k (by omega) (fun i hi => h2 i (by omega)), if_neg (Int32.not_lt.mpr (h2 k (by omega)))]
theorem nbF_first {h t m a : Nat → Int32} {s l j : Nat} (h1 : ∀ i, i < j → ¬ (mfP m a (nI s) (nI l) (nI i) ∧ stF h t (nI s) (nI l) (nI i) = t (s * 7 + l))) (h2 : mfP m a (nI s) (nI l) (nI j) ∧ stF h t (nI s) (nI l) (nI j) = t (s * 7 + l)) : ∀ d k, k ≤ j → j < k + d → nbF h t m a s l d k = j
  | 0, k, g1, g2 => by omega
  | d + 1, k, g1, g2 => by
    rw [nbF]
    by_cases e : k = j
    · subst e; rw [if_pos h2]
    · rw [if_neg (h1 k (by omega)), nbF_first h1 h2 d (k + 1) (by omega) (by omega)]
theorem Bst_suf {m : Nat} {may : List Nat → Nat → Bool} {H : Nat → Nat} : ∀ d r x, Bst m may H d r = some x → ∃ q, x.2 = q ++ r
  | 0, r, x, e => by cases e; exact ⟨[], rfl⟩
  | d + 1, r, x, e => by
    rw [Bst] at e
    obtain ⟨j, -, hj, -⟩ := mrgK_some m x e
    by_cases g : may r j = true
    · rw [if_pos g] at hj
      obtain ⟨q, hq⟩ := Bst_suf d (j :: r) x hj
      exact ⟨q ++ [j], by rw [hq, List.append_assoc]; rfl⟩
    · rw [if_neg g] at hj; cases hj
theorem mk_1 (i : Nat) : mk [i] = 2 ^ i := by
  show 0 ||| 2 ^ i = 2 ^ i
  rw [Nat.zero_or]
theorem hb_best {m : Nat} {h c a : Nat → Int32} {H : Nat → Nat} {ap : Nat → Nat → Bool} (hm0 : 0 < m) (hm : m ≤ 7) (hH : ∀ i, H i ≤ 500) (hh : ∀ i, i < m → h i = nI (H i)) (ha : APR m a ap) : (Bst m (mayC m c a) H m [] = none → 1000000 ≤ hbS m h c a) ∧ ∀ x, Bst m (mayC m c a) H m [] = some x → hbS m h c a = nI x.1 ∧ x.1 ≤ 4000 ∧ ∀ k, k < m → hbB m h c a k = tf x.2 k := by
  obtain ⟨d, hd⟩ : ∃ d, m = d + 1 := ⟨m - 1, by omega⟩
  have eB : Bst m (mayC m c a) H m [] = mrgK (fun i => Bst m (mayC m c a) H d [i]) m := by
    have : Bst m (mayC m c a) H (d + 1) [] = mrgK (fun i => Bst m (mayC m c a) H d [i]) m := rfl
    rw [← hd] at this
    exact this
  have eG : ∀ i, i < m → hbG m h c a (2 ^ i) i = nI (gN H (Bst m (mayC m c a) H d [i]) [i]) := fun i hi => by
    rw [← mk_1]
    exact hbG_val hm hH hh ha d i [] (by rw [List.length_cons, List.length_nil]; omega) (List.nodup_cons.mpr ⟨List.not_mem_nil, List.nodup_nil⟩) (fun y hy => by
      rcases List.mem_cons.mp hy with e | e
      · rw [e]; exact hi
      · exact absurd e List.not_mem_nil)
  have bd : ∀ i x, i < m → Bst m (mayC m c a) H d [i] = some x → x.1 ≤ 4000 := fun i x hi hx => (Bst_le hH hm d [i] x (by rw [List.length_cons, List.length_nil]; omega) hx).2
  rw [eB]
  constructor
  · intro g
    have hn := mrgK_none m g
    unfold hbS
    have hF : hbF m h c a < m := lfF_lt _ m hm0
    rw [eG _ hF, hn _ hF]
    exact Int32.le_refl _
  · intro x g
    obtain ⟨j, j1, j2, j3, j4⟩ := mrgK_some m x g
    have hx := bd j x j1 j2
    have vj : hbG m h c a (2 ^ j) j = nI x.1 := by rw [eG j j1, j2]; rfl
    have hF : hbF m h c a = j := by
      unfold hbF
      refine lfF_first (fun i hi => ?_) m j1 (fun i hi => ?_)
      · show hbG m h c a (2 ^ j) j < hbG m h c a (2 ^ i) i
        rw [vj, eG i (by omega)]
        cases e : Bst m (mayC m c a) H d [i] with
        | none => exact (nI_ltI (by omega) (by show 1000000 < 2 ^ 31; decide)).mpr (by show x.1 < 1000000; omega)
        | some y =>
          have := bd i y (by omega) e
          exact (nI_ltI (by omega) (by show y.1 - 0 < 2 ^ 31; omega)).mpr (j3 i hi y e)
      · show hbG m h c a (2 ^ j) j ≤ hbG m h c a (2 ^ i) i
        rw [vj, eG i hi]
        cases e : Bst m (mayC m c a) H d [i] with
        | none => exact (nI_leI (by omega) (by show 1000000 < 2 ^ 31; decide)).mpr (by show x.1 ≤ 1000000; omega)
        | some y =>
          have := bd i y hi e
          exact (nI_leI (by omega) (by show y.1 - 0 < 2 ^ 31; omega)).mpr (j4 i hi y e)
    refine ⟨by unfold hbS; rw [hF]; exact vj, hx, ?_⟩
    have path : ∀ k, k < m → ∃ l r, wbF (fun s l => nbF h (fun i => hbG m h c a (i / 7) (i % 7)) (fun i => mtI c i m) a s l m 0) j k = (mk (l :: r), l) ∧ r.length = k ∧ (l :: r).Nodup ∧ (∀ y ∈ (l :: r), y < m) ∧ Bst m (mayC m c a) H (m - 1 - k) (l :: r) = some x := by
      intro k
      induction k with
      | zero =>
        intro _
        refine ⟨j, [], by rw [mk_1]; rfl, rfl, List.nodup_cons.mpr ⟨List.not_mem_nil, List.nodup_nil⟩, fun y hy => ?_, ?_⟩
        · rcases List.mem_cons.mp hy with e | e
          · rw [e]; exact j1
          · exact absurd e List.not_mem_nil
        · rw [show m - 1 - 0 = d by omega]; exact j2
      | succ k ih =>
        intro hk
        obtain ⟨l, r, e1, e2, e3, e4, e5⟩ := ih (by omega)
        obtain ⟨d', hd'⟩ : ∃ d', m - 1 - k = d' + 1 := ⟨m - 1 - k - 1, by omega⟩
        rw [hd'] at e5
        have e6 := e5
        rw [Bst] at e6
        obtain ⟨q, q1, q2, q3, q4⟩ := mrgK_some m x e6
        have hl := e4 l List.mem_cons_self
        have hmay : mayC m c a (l :: r) q = true := by
          by_cases g9 : mayC m c a (l :: r) q = true
          · exact g9
          · rw [if_neg g9] at q2; cases q2
        rw [if_pos hmay] at q2
        have hS := mk_lt hm _ e4
        have hlen : (l :: r).length + (d' + 1) = m := by rw [List.length_cons]; omega
        have tv : hbG m h c a (mk (l :: r)) l = nI (x.1 - costN H (l :: r)) := by rw [hbG_val hm hH hh ha (d' + 1) l r hlen e3 e4, e5]; rfl
        have xb := Bst_le hH hm (d' + 1) (l :: r) x hlen e5
        have sv : ∀ i, i < m → mayC m c a (l :: r) i = true → stF h (fun i => hbG m h c a (i / 7) (i % 7)) (nI (mk (l :: r))) (nI l) (nI i) = nI (cst H l i + gN H (Bst m (mayC m c a) H d' (i :: l :: r)) (i :: l :: r)) := fun i hi hmi => by
          have hnk := mayC_new hm ha e4 hi hmi
          have ih2 := hbG_val (c := c) hm hH hh ha d' i (l :: r) (by rw [List.length_cons]; omega) (List.nodup_cons.mpr ⟨hnk, e3⟩) (fun y hy => by
            rcases List.mem_cons.mp hy with e | e
            · rw [e]; exact hi
            · exact e4 y e)
          have hHl := hH l
          have hHk := hH i
          rw [stF_is hS (by omega) (by omega), (hb_i7 (by omega)).1, (hb_i7 (by omega)).2, ← mk_c, ih2, hh l hl, hh i hi, nI_abs (by omega) (by omega), nI_add]; rfl
        have eqv : ∀ i, i < m → mayC m c a (l :: r) i = true → (stF h (fun i => hbG m h c a (i / 7) (i % 7)) (nI (mk (l :: r))) (nI l) (nI i) = nI (x.1 - costN H (l :: r)) ↔ ∃ y, Bst m (mayC m c a) H d' (i :: l :: r) = some y ∧ y.1 = x.1) := fun i hi hmi => by
          have hcs : cst H l i ≤ 500 := by have := hH l; have := hH i; unfold cst; split <;> omega
          have hck : costN H (i :: l :: r) = costN H (l :: r) + cst H l i := rfl
          have bB := fun y hy => Bst_le (may := mayC m c a) hH hm d' (i :: l :: r) y (by rw [List.length_cons]; omega) hy
          rw [sv i hi hmi]
          generalize Bst m (mayC m c a) H d' (i :: l :: r) = B at bB
          cases B with
          | none =>
            constructor
            · intro z
              have z := (nI_eq (by show cst H l i + 1000000 < 2 ^ 31; omega) (by omega)).mp z
              have z : cst H l i + 1000000 = x.1 - costN H (l :: r) := z
              omega
            · rintro ⟨y, hy, -⟩; cases hy
          | some y =>
            have hy := bB y rfl
            rw [hck] at hy
            have e9 : cst H l i + gN H (some y) (i :: l :: r) = y.1 - costN H (l :: r) := by
              show cst H l i + (y.1 - costN H (i :: l :: r)) = _
              rw [hck]; omega
            rw [e9, nI_eq (by omega) (by omega)]
            constructor
            · intro z; exact ⟨y, rfl, by omega⟩
            · rintro ⟨u, hu, z⟩; cases hu; rw [z]
        have tab : (fun i => hbG m h c a (i / 7) (i % 7)) (mk (l :: r) * 7 + l) = nI (x.1 - costN H (l :: r)) := by
          show hbG m h c a ((mk (l :: r) * 7 + l) / 7) ((mk (l :: r) * 7 + l) % 7) = _
          rw [(hb_i7 (by omega)).1, (hb_i7 (by omega)).2]; exact tv
        have tab2 : hbG m h c a ((mk (l :: r) * 7 + l) / 7) ((mk (l :: r) * 7 + l) % 7) = nI (x.1 - costN H (l :: r)) := tab
        have n1 : ∀ i, i < q → ¬ (mfP (fun i => mtI c i m) a (nI (mk (l :: r))) (nI l) (nI i) ∧ stF h (fun i => hbG m h c a (i / 7) (i % 7)) (nI (mk (l :: r))) (nI l) (nI i) = hbG m h c a ((mk (l :: r) * 7 + l) / 7) ((mk (l :: r) * 7 + l) % 7)) := by
          intro i hi z
          obtain ⟨z1, z2⟩ := z
          rw [tab2] at z2
          have hmi : mayC m c a (l :: r) i = true := decide_eq_true z1
          obtain ⟨y, y1, y2⟩ := (eqv i (by omega) hmi).mp z2
          have := q3 i hi y (by rw [if_pos hmi]; exact y1)
          omega
        have n2 : mfP (fun i => mtI c i m) a (nI (mk (l :: r))) (nI l) (nI q) ∧ stF h (fun i => hbG m h c a (i / 7) (i % 7)) (nI (mk (l :: r))) (nI l) (nI q) = hbG m h c a ((mk (l :: r) * 7 + l) / 7) ((mk (l :: r) * 7 + l) % 7) := by
          refine ⟨of_decide_eq_true hmay, ?_⟩
          rw [tab2]
          exact (eqv q q1 hmay).mpr ⟨x, q2, rfl⟩
        have hnb : nbF h (fun i => hbG m h c a (i / 7) (i % 7)) (fun i => mtI c i m) a (mk (l :: r)) l m 0 = q := nbF_first n1 n2 m 0 (Nat.zero_le _) (by omega)
        have hnk := mayC_new hm ha e4 q1 hmay
        refine ⟨q, l :: r, ?_, by rw [List.length_cons, e2], List.nodup_cons.mpr ⟨hnk, e3⟩, fun y hy => ?_, ?_⟩
        · rw [wbF, e1]
          show (mk (l :: r) ||| 2 ^ (nbF h _ _ a (mk (l :: r)) l m 0), nbF h _ _ a (mk (l :: r)) l m 0) = _
          rw [hnb]; rfl
        · rcases List.mem_cons.mp hy with e | e
          · rw [e]; exact q1
          · exact e4 y e
        · rw [show m - 1 - (k + 1) = d' by omega]; exact q2
    intro k hk
    obtain ⟨l, r, e1, e2, -, -, e5⟩ := path k hk
    obtain ⟨q, hq⟩ := Bst_suf _ _ _ e5
    unfold hbB
    rw [hF, e1, hq, tf_app _ _ (by rw [List.length_cons]; omega), ← e2, tf_l]
