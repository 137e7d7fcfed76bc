/-- the clauses that the class has read for loan k -/
def CLS (u : AW) (k : Nat) (cl : List (Int32 × Int32 × Int32)) : Prop := ct u (2000 + k) = cl.length ∧ cl.length ≤ 10 ∧ wL u (2000 + k) = iota (2100 + 10 * k) cl.length ∧ ∀ i x, cl[i]? = some x → CLp u (2100 + 10 * k + i) ∧ nI (kdN u (2100 + 10 * k + i)) = x.1 ∧ wI u 129 (2100 + 10 * k + i) = x.2.1 ∧ wI u 130 (2100 + 10 * k + i) = x.2.2
theorem CLS.add {u : AW} {k j : Nat} {a b : Int32} {cl : List (Int32 × Int32 × Int32)} (h : CLS u k cl) (hc : cl.length < 10) (hj : j < 6) : CLS (addC u k j a b) k (cl ++ [(nI j, a, b)]) := by
  obtain ⟨h1, h2, h3, h4⟩ := h
  have hid : cid u k = 2100 + 10 * k + cl.length := by unfold cid; rw [h1]
  refine ⟨?_, ?_, ?_, fun i x hx => ?_⟩
  · rw [addC_c, h1, List.length_append]; rfl
  · rw [List.length_append]; exact hc
  · rw [addC_l, h3, hid, List.length_append]
    show _ = iota (2100 + 10 * k) (cl.length + 1)
    rw [iota_succ]
  · by_cases z : i < cl.length
    · rw [List.getElem?_append_left z] at hx
      obtain ⟨⟨c1, c2, c3⟩, g1, g2, g3⟩ := h4 i x hx
      have hne : 2100 + 10 * k + i ≠ cid u k := by omega
      have ek : kdN (addC u k j a b) (2100 + 10 * k + i) = kdN u (2100 + 10 * k + i) := by unfold kdN; rw [addC_R hne]
      refine ⟨⟨?_, ?_, ?_⟩, ?_, ?_, ?_⟩
      · rw [addC_T, if_neg hne]; exact c1
      · rw [addC_R hne, ek]; exact c2
      · rw [ek]; exact c3
      · rw [ek]; exact g1
      · rw [addC_I hne]; exact g2
      · rw [addC_I hne]; exact g3
    · rw [List.getElem?_append_right (by omega)] at hx
      have e0 : i = cl.length := by
        by_cases y : i = cl.length
        · exact y
        · rw [List.getElem?_eq_none (by show 1 ≤ _; omega)] at hx; cases hx
      subst e0
      rw [Nat.sub_self] at hx
      have hx : (nI j, a, b) = x := Option.some.inj hx
      subst hx
      have eR : wR (addC u k j a b) 128 (2100 + 10 * k + cl.length) = some (10 + j) := by
        rw [← hid]
        show wR (sR (nO u (cid u k) 3) 128 (cid u k) (some (10 + j))) 128 (cid u k) = _
        rw [wR_sR, if_pos rfl, if_pos rfl]
      have ek : kdN (addC u k j a b) (2100 + 10 * k + cl.length) = j := by
        unfold kdN; rw [eR]; show 10 + j - 10 = j; omega
      refine ⟨⟨?_, ?_, ?_⟩, ?_, ?_, ?_⟩
      · rw [addC_T, hid, if_pos rfl]
      · rw [eR, ek]
      · rw [ek]; exact hj
      · rw [ek]
      · rw [← hid]
        show wI (sI (sI (sR (nO u (cid u k) 3) 128 (cid u k) (some (10 + j))) 129 (cid u k) a) 130 (cid u k) b) 129 (cid u k) = a
        rw [wI_sI, if_neg (by decide), wI_sI, if_pos rfl, if_pos rfl]
      · rw [← hid]
        show wI (sI (sI (sR (nO u (cid u k) 3) 128 (cid u k) (some (10 + j))) 129 (cid u k) a) 130 (cid u k) b) 130 (cid u k) = b
        rw [wI_sI, if_pos rfl, if_pos rfl]
theorem kwF_some {T : Nat → Int32} {s a j : Nat} : ∀ d k, kwF T s a d k = some (10 + j) → iwB T j s a = true
  | 0, k, h => by rw [kwF] at h; cases h
  | d + 1, k, h => by
    rw [kwF] at h
    by_cases z : iwB T k s a = true
    · rw [if_pos z] at h
      have e := Option.some.inj h
      have e2 : k = j := by omega
      rw [← e2]; exact z
    · rw [if_neg z] at h; exact kwF_some d (k + 1) h
theorem k_len : ∀ k, k < 6 → 4 ≤ (kByt k).length := by decide +kernel
theorem txR_f {T : Nat → Int32} {n k : Nat} {u : AW} {s : Nat × Int32} (h : ¬ s.2 = -1) : ∀ d, txR T n k d u s = (u, s)
  | 0 => rfl
  | d + 1 => by rw [txR, if_neg (fun z => h z.2)]
/-- class and reference read a text alike -/
theorem tx_eq {T f : Nat → Int32} {n k : Nat} (h : BY T f n) (hn : n ≤ 200) : ∀ d u a cl, CLS u k cl → a ≤ n → sp f n a = a → (txR T n k d u (a, -1)).2.2 = (rlS f n d a cl).2.1 ∧ ((rlS f n d a cl).2.1 = -1 → CLS (txR T n k d u (a, -1)).1 k (rlS f n d a cl).2.2) ∧ (rlS f n d a cl).2.2.length ≤ 10
  | 0, u, a, cl, hc, ha, hs => ⟨rfl, fun _ => hc, hc.2.1⟩
  | d + 1, u, a, cl, hc, ha, hs => by
    obtain ⟨c1, c2, c3, c4⟩ := hc
    have hc : CLS u k cl := ⟨c1, c2, c3, c4⟩
    rw [txR, rlS]
    by_cases z : a < n
    · rw [if_pos z, if_pos ⟨z, rfl⟩]
      have na : ¬ nI a = -1 := nI_ne (by omega)
      rcases kd_eq (b := -1) h ha hs with ⟨k1, k2⟩ | ⟨j, hj, k1, k2⟩
      · have e1 : rcC T n k u (a, -1) = (u, (rwE T n (a, -1), nI a)) := by unfold rcC; rw [k1]
        have e2 : skS T n (rwE T n (a, -1), nI a) = (skF T (n - rwE T n (a, -1)) (rwE T n (a, -1)), nI a) := rfl
        rw [e1, e2, if_pos (Or.inl k2), txR_f na, hs]
        exact ⟨rfl, fun y => absurd y na, c2⟩
      · have n1 : ¬ rKd f n a = -1 := by rw [k2]; exact nI_ne (by omega)
        by_cases y : cl.length = 10
        · have e1 : rcC T n k u (a, -1) = (u, (rwE T n (a, -1), nI a)) := by
            unfold rcC; rw [k1]
            show (if ct u (2000 + k) < 10 then _ else _) = _
            rw [if_neg (by omega)]
          have e2 : skS T n (rwE T n (a, -1), nI a) = (skF T (n - rwE T n (a, -1)) (rwE T n (a, -1)), nI a) := rfl
          rw [e1, e2, if_pos (Or.inr y), txR_f na, hs]
          exact ⟨rfl, fun y => absurd y na, c2⟩
        · have hiw := kwF_some 6 0 k1
          have eE : rwE T n (a, -1) = rsm f (n - a) a := wd_eq h (n - a) a (by omega)
          have hle := rsm_le f (n - a) a
          have hlen : rsm f (n - a) a = a + (kByt j).length := by
            have hiw : iwB T j a (rwE T n (a, -1)) = true := hiw
            unfold iwB at hiw
            rw [eE] at hiw
            by_cases x : (kByt j).length = rsm f (n - a) a - a
            · omega
            · rw [if_neg x] at hiw; exact absurd hiw (by decide)
          have h4 := k_len j hj
          have eN : rEn f n a = rsm f (n - a) a := by unfold rEn; rw [hs]
          obtain ⟨q1, q2⟩ := cl_eq (e := rsm f (n - a) a) h hn (by omega) (by omega) hj
          have hcl := clS_le (T := T) (n := n) (s := (rsm f (n - a) a, -1)) (j := j) (show rsm f (n - a) a ≤ n by omega)
          rw [if_neg (fun x => x.elim n1 y), k2, eN]
          have e1 : rcC T n k u (a, -1) = if (clS T n (rsm f (n - a) a, -1) j).2 = -1 then (addC u k j (clA T n (rsm f (n - a) a, -1) j).2 (clB T n (rsm f (n - a) a, -1) j).2, clS T n (rsm f (n - a) a, -1) j) else (u, clS T n (rsm f (n - a) a, -1) j) := by
            unfold rcC; rw [k1]
            show (if ct u (2000 + k) < 10 then _ else _) = _
            rw [if_pos (by omega), eE, Nat.add_sub_cancel_left]
          rw [e1]
          by_cases x : (cE f n ((cA f n (nI j) (rsm f (n - a) a)).1, (cA f n (nI j) (rsm f (n - a) a)).2.1)).2 = -1
          · obtain ⟨p1, p2, p3⟩ := q2 x
            have e3 : skS T n (clS T n (rsm f (n - a) a, -1) j) = (sp f n ((cE f n ((cA f n (nI j) (rsm f (n - a) a)).1, (cA f n (nI j) (rsm f (n - a) a)).2.1)).1 + 1), -1) := by
              rw [skS_eq h hcl, p1, q1, x]
            rw [if_pos x, if_pos (by rw [q1]; exact x), p2, p3]
            have hle2 : (cE f n ((cA f n (nI j) (rsm f (n - a) a)).1, (cA f n (nI j) (rsm f (n - a) a)).2.1)).1 + 1 ≤ n := by rw [← p1]; exact hcl
            rw [e3]
            exact tx_eq h hn d _ _ _ (hc.add (by omega) hj) (sp_le hle2).2 (sp_sp hle2)
          · rw [if_neg x, if_neg (by rw [q1]; exact x)]
            have e3 : ¬ (skS T n (clS T n (rsm f (n - a) a, -1) j)).2 = -1 := by
              show ¬ (clS T n (rsm f (n - a) a, -1) j).2 = -1
              rw [q1]; exact x
            rw [txR_f e3]
            refine ⟨q1, fun y => absurd y x, ?_⟩
            rw [List.length_append]
            show cl.length + 1 ≤ 10
            omega
    · rw [if_neg z, if_neg (fun x => z x.1)]
      exact ⟨rfl, fun _ => hc, c2⟩

