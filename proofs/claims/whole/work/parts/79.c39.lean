/-- nothing that lives speaks of the reader -/
def NX (u : AW) : Prop := ∀ i, wT u i ≠ 0 → i ≠ 223 → (∀ q, wR u q i ≠ some 223) ∧ (∀ q, wP u i q ≠ some 223) ∧ 223 ∉ wL u i
theorem rcC_or2 (T : Nat → Int32) (n k : Nat) (u : AW) (s : Nat × Int32) : (rcC T n k u s).1 = u ∨ (ct u (2000 + k) < 10 ∧ ∃ j a b, j < 6 ∧ (rcC T n k u s).1 = addC u k j a b) := by
  cases hw : rwK T n s with
  | none =>
    refine Or.inl ?_
    simp only [rcC, hw]
  | some q =>
    have hq : ∃ j, j < 6 ∧ q = 10 + j := by
      rcases kwF_in T s.1 (rwE T n s) 6 0 with h | ⟨j, -, hj, h⟩
      · have h : rwK T n s = none := h
        rw [hw] at h; exact absurd h (by simp)
      · have h : rwK T n s = some (10 + j) := h
        rw [hw] at h; exact ⟨j, by omega, Option.some.inj h⟩
    obtain ⟨j, hj, rfl⟩ := hq
    by_cases hc : ct u (2000 + k) < 10
    · by_cases f : (clS T n (rwE T n s, -1) j).2 = -1
      · exact Or.inr ⟨hc, j, (clA T n (rwE T n s, -1) j).2, (clB T n (rwE T n s, -1) j).2, hj, by simp only [rcC, hw, Nat.add_sub_cancel_left, if_pos hc, if_pos f]⟩
      · refine Or.inl ?_
        simp only [rcC, hw, Nat.add_sub_cancel_left, if_pos hc, if_neg f]
    · refine Or.inl ?_
      simp only [rcC, hw, Nat.add_sub_cancel_left, if_neg hc]
theorem NX.add {u : AW} {k j : Nat} {a b : Int32} (h : NX u) (hj : j < 6) (hk : wT u (2000 + k) ≠ 0) : NX (addC u k j a b) := by
  intro i hi hn
  have hc : (223 : Nat) ≠ cid u k := by unfold cid; omega
  have hc2 : 2000 + k ≠ cid u k := by unfold cid; omega
  by_cases e : i = cid u k
  · subst e
    refine ⟨fun q => ?_, fun q => ?_, ?_⟩
    · show wR (sR (nO u (cid u k) 3) 128 (cid u k) (some (10 + j))) q (cid u k) ≠ some 223
      rw [wR_sR, if_pos rfl, wR_nO, if_pos rfl]
      split
      · intro z; have := Option.some.inj z; omega
      · exact nofun
    · show wP (nO u (cid u k) 3) (cid u k) q ≠ some 223
      rw [wP_nO, if_pos rfl]; exact nofun
    · show 223 ∉ wL (sL (clW u (cid u k) (10 + j) a b) (2000 + k) (wL u (2000 + k) ++ [cid u k])) (cid u k)
      rw [wLs (Ne.symm hc2)]
      show 223 ∉ wL (nO u (cid u k) 3) (cid u k)
      rw [wL_nO, if_pos rfl]; exact List.not_mem_nil
  · have hi' : wT u i ≠ 0 := by rw [addC_T, if_neg e] at hi; exact hi
    obtain ⟨h1, h2, h3⟩ := h i hi' hn
    refine ⟨fun q => by rw [addC_R e]; exact h1 q, fun q => by rw [addC_P e]; exact h2 q, ?_⟩
    by_cases e2 : i = 2000 + k
    · rw [e2, addC_l]
      intro z
      rcases List.mem_append.mp z with z | z
      · exact h3 (by rw [e2]; exact z)
      · exact hc (List.mem_singleton.mp z)
    · rw [addC_L e2 e]; exact h3
theorem txR_nx {w : AW} {k : Nat} {T : Nat → Int32} {n : Nat} : ∀ d u s, TX w u k → NX u → NX (txR T n k d u s).1
  | 0, _, _, _, h => h
  | d + 1, u, s, t, h => by
    rw [txR]
    split
    · refine txR_nx d _ _ (t.rc T n s) ?_
      rcases rcC_or2 T n k u s with e | ⟨hc, j, a, b, hj, e⟩
      · rw [e]; exact h
      · rw [e]; exact h.add hj (by rw [t.2.1.2.2.2.1.2.1]; decide)
    · exact h
theorem nO_nx {u : AW} {i t : Nat} (h : NX u) : NX (nO u i t) := fun x hx hn => by
  by_cases e : x = i
  · subst e
    exact ⟨fun q => by rw [wR_nO, if_pos rfl]; exact nofun, fun q => by rw [wP_nO, if_pos rfl]; exact nofun, by rw [wL_nO, if_pos rfl]; exact List.not_mem_nil⟩
  · have hx' : wT u x ≠ 0 := by rw [wT_nO, if_neg e] at hx; exact hx
    obtain ⟨h1, h2, h3⟩ := h x hx' hn
    exact ⟨fun q => by rw [wR_nO, if_neg e]; exact h1 q, fun q => by rw [wP_nO, if_neg e]; exact h2 q, by rw [wL_nO, if_neg e]; exact h3⟩
theorem lsW_nx {u : AW} {t k x : Nat} (h : NX u) (hx : x ≠ 223) : NX (lsW u t k x) := fun i hi hn => by
  have h0 := nO_nx (i := x) (t := 1) h
  by_cases e : i = x
  · subst e
    have hl : wT (nO u i 1) i ≠ 0 := by rw [wT_nO, if_pos rfl]; decide
    obtain ⟨h1, h2, h3⟩ := h0 i hl hn
    refine ⟨fun q => ?_, h2, ?_⟩
    · show wR (sR (nO u i 1) k t (some i)) q i ≠ some 223
      rw [wR_sR]
      split
      · split
        · intro z; exact hx (Option.some.inj z)
        · exact h1 q
      · exact h1 q
    · rw [lsW_L, if_pos rfl]; exact List.not_mem_nil
  · have hl : wT (nO u x 1) i ≠ 0 := by
      rw [lsW_T, if_neg e] at hi
      rw [wT_nO, if_neg e]; exact hi
    obtain ⟨h1, h2, h3⟩ := h0 i hl hn
    refine ⟨fun q => ?_, h2, ?_⟩
    · show wR (sR (nO u x 1) k t (some x)) q i ≠ some 223
      rw [wR_sR]
      split
      · split
        · intro z; exact hx (Option.some.inj z)
        · exact h1 q
      · exact h1 q
    · rw [lsW_L, if_neg e]
      rw [wL_nO, if_neg e] at h3
      exact h3
theorem lnW_nx {w : AW} {k : Nat} {n a d : Int32} (h : NX w) : NX (lnW w k n a d) := by
  have h1 : NX (nwL w k a d) := lsW_nx (t := 1900 + k) (k := 387) (nO_nx h) (by omega)
  have h2 := nO_nx (i := 223) (t := 8) h1
  intro i hi hn
  obtain ⟨g1, g2, g3⟩ := h2 i hi hn
  refine ⟨fun q => ?_, g2, g3⟩
  show wR (rdI (nwL w k a d) n k) q i ≠ some 223
  rw [rdI_R hn]
  have z := g1 q
  rw [wR_nO, if_neg hn] at z
  exact z
theorem lnW_old {w : AW} {k : Nat} {n a d : Int32} (h1 : wT w (1900 + k) = 0) (h2 : wT w (2000 + k) = 0) (h3 : wT w 223 = 0) {i : Nat} (hi : wT w i ≠ 0) : wT (lnW w k n a d) i = wT w i ∧ wL (lnW w k n a d) i = wL w i ∧ (∀ q, wP (lnW w k n a d) i q = wP w i q) ∧ ∀ q, wR (lnW w k n a d) q i = wR w q i := by
  have n1 : i ≠ 1900 + k := fun z => hi (by rw [z]; exact h1)
  have n2 : i ≠ 2000 + k := fun z => hi (by rw [z]; exact h2)
  have n3 : i ≠ 223 := fun z => hi (by rw [z]; exact h3)
  have g := nwL_ag (w := w) (n := k) (a := a) (b := d) h1 h2 i hi
  refine ⟨?_, ?_, fun q => ?_, fun q => ?_⟩
  · rw [lnW_T, if_neg n3, if_neg n2, if_neg n1]
  · show wL (rdI (nwL w k a d) n k) i = _
    rw [rdI_L n3]; exact g.2.2.1
  · show wP (nO (nO (nO w (1900 + k) 7) (2000 + k) 1) 223 8) i q = _
    rw [wP_nO, if_neg n3, wP_nO, if_neg n2, wP_nO, if_neg n1]
  · show wR (rdI (nwL w k a d) n k) q i = _
    rw [rdI_R n3]; exact g.2.2.2.1 q
theorem lnR_old {w : AW} {k : Nat} {n a d : Int32} (h1 : wT w (1900 + k) = 0) (h2 : wT w (2000 + k) = 0) (h3 : wT w 223 = 0) (hf : ∀ i, i < 10 → wT w (2100 + 10 * k + i) = 0) {i : Nat} (hi : wT w i ≠ 0) : wT (lnR w k n a d).1 i = wT w i ∧ wL (lnR w k n a d).1 i = wL w i ∧ (∀ q, wP (lnR w k n a d).1 i q = wP w i q) ∧ ∀ q, wR (lnR w k n a d).1 q i = wR w q i := by
  have kp : KP (lnW w k n a d) (lnR w k n a d).1 k := txR_kp 11 _ _ (KP.refl _ _)
  have n2 : i ≠ 2000 + k := fun z => hi (by rw [z]; exact h2)
  have n4 : ¬ (2100 + 10 * k ≤ i ∧ i < 2110 + 10 * k) := fun z => hi (by
    have := hf (i - (2100 + 10 * k)) (by omega)
    rw [show 2100 + 10 * k + (i - (2100 + 10 * k)) = i by omega] at this
    exact this)
  obtain ⟨a1, a2, a3, a4, -⟩ := kp.2.2.2 i n2 n4
  obtain ⟨b1, b2, b3, b4⟩ := lnW_old (n := n) (a := a) (d := d) h1 h2 h3 hi
  exact ⟨a1.trans b1, a2.trans b2, fun q => (a3 q).trans (b3 q), fun q => (a4 q).trans (b4 q)⟩
/-- w2 is w1 with some things forgotten, none of those of w -/
def DR (w w1 w2 : AW) : Prop := (∀ i, wT w2 i ≠ 0 → wT w2 i = wT w1 i) ∧ w2.2 = w1.2 ∧ (∀ k i j, wT w2 i ≠ 0 → wR w1 k i = some j → wT w1 j ≠ 0 → wT w2 j ≠ 0) ∧ (∀ i k j, wT w2 i ≠ 0 → wP w1 i k = some j → wT w1 j ≠ 0 → wT w2 j ≠ 0) ∧ (∀ i j, wT w2 i ≠ 0 → j ∈ wL w1 i → wT w1 j ≠ 0 → wT w2 j ≠ 0) ∧ ∀ i, wT w i ≠ 0 → wT w2 i ≠ 0
/-- forget a thing -/
def fgW (w : AW) (i : Nat) : AW := sT w i 0
def sp_X11_loan : CSp := fun as w K => ∃ (n : Int32) (a : Int32) (d : Int32), as = [.ref 200, .int n, .int a, .int d] ∧ (CIv w ∧ (∃ tb, tb ≤ 200 ∧ wI w 715 200 = nI tb) ∧ (ct w 204 < 30 → wT w (1900 + ct w 204) = 0 ∧ wT w (2000 + ct w 204) = 0 ∧ wT w 223 = 0 ∧ ∀ i, i < 10 → wT w (2100 + 10 * ct w 204 + i) = 0)) ∧ ((¬ ((0 ≤ n ∧ n ≤ wI w 715 200) ∧ (0 ≤ a ∧ a ≤ 9) ∧ 0 ≤ d ∧ d ≤ 10000) → K (.inr "java/lang/IllegalArgumentException") w) ∧ (((0 ≤ n ∧ n ≤ wI w 715 200) ∧ (0 ≤ a ∧ a ≤ 9) ∧ 0 ≤ d ∧ d ≤ 10000) ∧ ¬ ct w 204 < 30 → K (.inr "java/lang/IllegalStateException") w) ∧ (((0 ≤ n ∧ n ≤ wI w 715 200) ∧ (0 ≤ a ∧ a ≤ 9) ∧ 0 ≤ d ∧ d ≤ 10000) ∧ ct w 204 < 30 → (¬ (lnR w (ct w 204) n a d).2.2 = -1 → K (.inl (some (.int (-2 - (lnR w (ct w 204) n a d).2.2)))) ((wT w, (rdW (lnR w (ct w 204) n a d).1 (lnR w (ct w 204) n a d).2).2))) ∧ ((lnR w (ct w 204) n a d).2.2 = -1 → K (.inl (some (.int (nI (ct w 204))))) (fgW (sL (rdW (lnR w (ct w 204) n a d).1 (lnR w (ct w 204) n a d).2) 204 (wL w 204 ++ [1900 + ct w 204])) 223))))
theorem sq_X11_loan {w : AW} {K : AO → AW → Prop} {n a d : Int32} : sp_X11_loan [.ref 200, .int n, .int a, .int d] w K = ((CIv w ∧ (∃ tb, tb ≤ 200 ∧ wI w 715 200 = nI tb) ∧ (ct w 204 < 30 → wT w (1900 + ct w 204) = 0 ∧ wT w (2000 + ct w 204) = 0 ∧ wT w 223 = 0 ∧ ∀ i, i < 10 → wT w (2100 + 10 * ct w 204 + i) = 0)) ∧ ((¬ ((0 ≤ n ∧ n ≤ wI w 715 200) ∧ (0 ≤ a ∧ a ≤ 9) ∧ 0 ≤ d ∧ d ≤ 10000) → K (.inr "java/lang/IllegalArgumentException") w) ∧ (((0 ≤ n ∧ n ≤ wI w 715 200) ∧ (0 ≤ a ∧ a ≤ 9) ∧ 0 ≤ d ∧ d ≤ 10000) ∧ ¬ ct w 204 < 30 → K (.inr "java/lang/IllegalStateException") w) ∧ (((0 ≤ n ∧ n ≤ wI w 715 200) ∧ (0 ≤ a ∧ a ≤ 9) ∧ 0 ≤ d ∧ d ≤ 10000) ∧ ct w 204 < 30 → (¬ (lnR w (ct w 204) n a d).2.2 = -1 → K (.inl (some (.int (-2 - (lnR w (ct w 204) n a d).2.2)))) ((wT w, (rdW (lnR w (ct w 204) n a d).1 (lnR w (ct w 204) n a d).2).2))) ∧ ((lnR w (ct w 204) n a d).2.2 = -1 → K (.inl (some (.int (nI (ct w 204))))) (fgW (sL (rdW (lnR w (ct w 204) n a d).1 (lnR w (ct w 204) n a d).2) 204 (wL w 204 ++ [1900 + ct w 204])) 223))))) := propext ⟨fun h => by obtain ⟨_, _, _, h, hp⟩ := h; cases h; exact hp, fun hp => ⟨_, _, _, rfl, hp⟩⟩
theorem ct_X11_loan (l : Launch) (E : AE) : ∀ (as : List Value) (w : AW) (Q : AO → AW → Prop), sp_X11_loan as w Q → MA l E yX11_loan cX11_loan 6 (some FieldType.int) 9 216 28 3532 as w Q := by
  intro as w Q h
  obtain ⟨n, a, d, has, hp, q0, q1, q2⟩ := h
  subst has
  have hC := hp.1
  have h200 : wT w 200 ≠ 0 := by rw [ci_T hC]; decide
  refine MA.view (fun ad H hCo hlt => ⟨ad, w, fun o w1 => ∃ w2, Q o w2 ∧ (w2 = w1 ∨ (DR w w1 w2 ∧ ∃ x, o = .inl (some (.int x)))), cto_X11_loan l E _ _ _ ⟨n, a, d, rfl, hp, fun z => ⟨w, q0 z, Or.inl rfl⟩, fun z => ⟨w, q1 z, Or.inl rfl⟩, fun z => ⟨fun f => ⟨_, (q2 z).1 f, Or.inr ⟨?_, _, rfl⟩⟩, fun f => ⟨_, (q2 z).2 f, Or.inr ⟨?_, _, rfl⟩⟩⟩⟩, hCo, fun v hv => ⟨rfl, ?_⟩, fun o w1 ad1 H1 hQ hC1 hext hlv => ?_⟩)
  · obtain ⟨h1, h2, h3, h4⟩ := hp.2.2 z.2
    refine ⟨fun i hi => (lnR_old h1 h2 h3 h4 hi).1.symm, rfl, fun q i j hi hr _ => ?_, fun i q j hi hr _ => ?_, fun i j hi hr _ => ?_, fun i hi => hi⟩
    · exact hCo.2.2.2.1 q i j hi (((lnR_old h1 h2 h3 h4 hi).2.2.2 q).symm.trans hr)
    · exact hCo.2.2.2.2.1 i q j hi (((lnR_old h1 h2 h3 h4 hi).2.2.1 q).symm.trans hr)
    · refine hCo.2.2.2.2.2.1 i j hi ?_
      have hr : j ∈ wL (lnR w (ct w 204) n a d).1 i := hr
      rw [(lnR_old h1 h2 h3 h4 hi).2.1] at hr
      exact hr
  · obtain ⟨h1, h2, h3, h4⟩ := hp.2.2 z.2
    obtain ⟨tb, htb, etb⟩ := hp.2.1
    obtain ⟨m, hm, em⟩ : ∃ m, m ≤ 200 ∧ n = nI m := by
      have a1' := z.1.1
      rw [etb] at a1'
      obtain ⟨m, hm, em⟩ := in_le a1' rfl (by omega)
      exact ⟨m, by omega, em⟩
    obtain ⟨r1, -, -, -⟩ := lnW_rs (a := a) (d := d) (k := ct w 204) hC em hm z.2
    have rk := lnW_rk (n := n) (a := a) (d := d) hC z.2 h1 h2 h3 h4
    have nx0 : NX w := fun i hi hn => ⟨fun q y => hCo.2.2.2.1 q i 223 hi y h3, fun q y => hCo.2.2.2.2.1 i q 223 hi y h3, fun y => hCo.2.2.2.2.2.1 i 223 hi y h3⟩
    have nx : NX (lnR w (ct w 204) n a d).1 := txR_nx (w := lnW w (ct w 204) n a d) 11 _ _ ⟨r1, rk, rfl, rfl⟩ (lnW_nx nx0)
    have tw : ∀ i, i ≠ 223 → wT (fgW (sL (rdW (lnR w (ct w 204) n a d).1 (lnR w (ct w 204) n a d).2) 204 (wL w 204 ++ [1900 + ct w 204])) 223) i = wT (lnR w (ct w 204) n a d).1 i := fun i hi => by
      unfold fgW
      rw [wT_sT, if_neg hi]; rfl
    have t0 : wT (fgW (sL (rdW (lnR w (ct w 204) n a d).1 (lnR w (ct w 204) n a d).2) 204 (wL w 204 ++ [1900 + ct w 204])) 223) 223 = 0 := by
      unfold fgW
      rw [wT_sT, if_pos rfl]
    have nn : ∀ i, wT (fgW (sL (rdW (lnR w (ct w 204) n a d).1 (lnR w (ct w 204) n a d).2) 204 (wL w 204 ++ [1900 + ct w 204])) 223) i ≠ 0 → i ≠ 223 := fun i hi e => hi (by rw [e]; exact t0)
    refine ⟨fun i hi => tw i (nn i hi), rfl, fun q i j hi hr hj => ?_, fun i q j hi hr hj => ?_, fun i j hi hr hj => ?_, fun i hi => ?_⟩
    · have hi2 := hi
      rw [tw i (nn i hi)] at hi2
      have hj2 : j ≠ 223 := fun e => (nx i hi2 (nn i hi)).1 q (by rw [← e]; exact hr)
      rw [tw j hj2]; exact hj
    · have hi2 := hi
      rw [tw i (nn i hi)] at hi2
      have hj2 : j ≠ 223 := fun e => (nx i hi2 (nn i hi)).2.1 q (by rw [← e]; exact hr)
      rw [tw j hj2]; exact hj
    · have hi2 := hi
      rw [tw i (nn i hi)] at hi2
      have hj2 : j ≠ 223 := fun e => by
        by_cases e4 : i = 204
        · rw [e4, wLe] at hr
          have t4 : wT w 204 ≠ 0 := by rw [(ci_loans hC).1]; decide
          rcases List.mem_append.mp hr with hr | hr
          · rw [(ci_loans hC).2.1] at hr
            obtain ⟨y, -, hy⟩ := iota_mem.mp hr
            omega
          · have := List.mem_singleton.mp hr
            omega
        · rw [wLs e4] at hr
          exact (nx i hi2 (nn i hi)).2.2 (by rw [← e]; exact hr)
      rw [tw j hj2]; exact hj
    · have hn : i ≠ 223 := fun e => hi (by rw [e]; exact h3)
      rw [tw i hn, (lnR_old h1 h2 h3 h4 hi).1]; exact hi
  · intro i hi
    simp only [List.mem_cons, List.not_mem_nil, or_false] at hv
    rcases hv with rfl | rfl | rfl | rfl
    · cases hi; exact h200
    · cases hi
    · cases hi
    · cases hi
  · obtain ⟨w2, hQ2, e | ⟨⟨d1, d2, d3, d4, d5, d6⟩, x, rfl⟩⟩ := hQ
    · subst e
      exact ⟨w2, ad1, hQ2, hC1, hext, fun v hv => ⟨rfl, hlv v hv⟩⟩
    · exact ⟨w2, ad1, hQ2, hC1.drop d1 d2 (fun k i j z y => d3 k i j z y (hC1.2.2.2.1 k i j (by rw [← d1 i z]; exact z) y)) (fun i k j z y => d4 i k j z y (hC1.2.2.2.2.1 i k j (by rw [← d1 i z]; exact z) y)) (fun i j z y => d5 i j z y (hC1.2.2.2.2.2.1 i j (by rw [← d1 i z]; exact z) y)), fun i hi => ⟨d6 i hi, (hext i hi).2⟩, fun v hv => by cases hv; exact ⟨rfl, lvv_int _ _⟩⟩
