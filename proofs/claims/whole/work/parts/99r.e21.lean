/-- u agrees with w on w's things but for keys ks, rows rs, lists ls -/
def AX (ks rs : List Nat) (ls : Nat → Prop) (w u : AW) : Prop := ∀ x, wT w x ≠ 0 → wT u x = wT w x ∧ wN u x = wN w x ∧ (¬ ls x → wL u x = wL w x) ∧ (∀ k, k ∉ ks → wR u k x = wR w k x ∧ wI u k x = wI w k x) ∧ (x ∉ rs → wA u x = wA w x)
section
variable {ks rs : List Nat} {ls : Nat → Prop} {w u : AW}
theorem AX.refl : AX ks rs ls w w := fun _ _ => ⟨rfl, rfl, fun _ => rfl, fun _ _ => ⟨rfl, rfl⟩, fun _ => rfl⟩
theorem AX.oI (g : AX ks rs ls w u) {k i : Nat} {v : Int32} (h : wT w i = 0 ∨ k ∈ ks) : AX ks rs ls w (sI u k i v) := fun x hx => by
  obtain ⟨a, b, c, d, e⟩ := g x hx
  refine ⟨a, b, c, fun k' hk => ⟨(d k' hk).1, ?_⟩, e⟩
  rw [wI_sI, ← (d k' hk).2]
  by_cases z : k' = k
  · rw [if_pos z]
    by_cases y : x = i
    · exfalso
      rcases h with h | h
      · exact hx (y ▸ h)
      · exact hk (z ▸ h)
    · rw [if_neg y]
  · rw [if_neg z]
theorem AX.oR (g : AX ks rs ls w u) {k i : Nat} {v : Option Nat} (h : wT w i = 0 ∨ k ∈ ks) : AX ks rs ls w (sR u k i v) := fun x hx => by
  obtain ⟨a, b, c, d, e⟩ := g x hx
  refine ⟨a, b, c, fun k' hk => ⟨?_, (d k' hk).2⟩, e⟩
  rw [wR_sR, ← (d k' hk).1]
  by_cases z : k' = k
  · rw [if_pos z]
    by_cases y : x = i
    · exfalso
      rcases h with h | h
      · exact hx (y ▸ h)
      · exact hk (z ▸ h)
    · rw [if_neg y]
  · rw [if_neg z]
theorem AX.oL (g : AX ks rs ls w u) {i : Nat} {v : List Nat} (h : wT w i = 0 ∨ ls i) : AX ks rs ls w (sL u i v) := fun x hx => by
  obtain ⟨a, b, c, d, e⟩ := g x hx
  refine ⟨a, b, fun hl => ?_, d, e⟩
  rw [wL_sL, ← c hl]
  by_cases y : x = i
  · exfalso
    rcases h with h | h
    · exact hx (y ▸ h)
    · exact hl (y ▸ h)
  · rw [if_neg y]
theorem AX.oA (g : AX ks rs ls w u) {t i : Nat} {v : Int32} (h : wT w t = 0 ∨ t ∈ rs) : AX ks rs ls w (sA u t i v) := fun x hx => by
  obtain ⟨a, b, c, d, e⟩ := g x hx
  refine ⟨a, b, c, d, fun hr => ?_⟩
  rw [← e hr]
  funext j
  rw [wA_sA]
  by_cases y : x = t
  · exfalso
    rcases h with h | h
    · exact hx (y ▸ h)
    · exact hr (y ▸ h)
  · rw [if_neg y]
theorem AX.oJ (g : AX ks rs ls w u) {t i : Nat} {v : Int64} : AX ks rs ls w (sJ u t i v) := g
theorem AX.oT (g : AX ks rs ls w u) {i v : Nat} (h : wT w i = 0) : AX ks rs ls w (sT u i v) := fun x hx => by
  obtain ⟨a, b, c, d, e⟩ := g x hx
  refine ⟨?_, b, c, d, e⟩
  have y : x ≠ i := fun y => hx (y ▸ h)
  rw [wT_sT, if_neg y]; exact a
theorem AX.mO (g : AX ks rs ls w u) {i v : Nat} (h : wT w i = 0) : AX ks rs ls w (nO u i v) := fun x hx => by
  obtain ⟨a, b, c, d, e⟩ := g x hx
  have y : x ≠ i := fun y => hx (y ▸ h)
  refine ⟨by rw [wT_nO, if_neg y]; exact a, b, fun hl => by rw [wL_nO, if_neg y]; exact c hl, fun k hk => ⟨by rw [wR_nO, if_neg y]; exact (d k hk).1, by rw [wI_nO, if_neg y]; exact (d k hk).2⟩, e⟩
theorem AX.mA (g : AX ks rs ls w u) {i v m : Nat} (h : wT w i = 0) : AX ks rs ls w (nA u i v m) := fun x hx => by
  obtain ⟨a, b, c, d, e⟩ := g x hx
  have y : x ≠ i := fun y => hx (y ▸ h)
  refine ⟨by rw [wT_nA, if_neg y]; exact a, by rw [wN_nA, if_neg y]; exact b, fun hl => by rw [wL_nA, if_neg y]; exact c hl, fun k hk => ⟨by rw [wR_nA, if_neg y]; exact (d k hk).1, by rw [wI_nA, if_neg y]; exact (d k hk).2⟩, fun hr => ?_⟩
  rw [← e hr]; funext j; rw [wA_nA, if_neg y]
theorem AX.T (g : AX ks rs ls w u) {x c : Nat} (h : wT w x = c) (hc : c ≠ 0) : wT u x = c := (g x (by rw [h]; exact hc)).1.trans h
theorem AX.N (g : AX ks rs ls w u) {x c : Nat} (h : wT w x = c) (hc : c ≠ 0) : wN u x = wN w x := (g x (by rw [h]; exact hc)).2.1
theorem AX.L (g : AX ks rs ls w u) {x c : Nat} (h : wT w x = c) (hc : c ≠ 0) (hl : ¬ ls x) : wL u x = wL w x := (g x (by rw [h]; exact hc)).2.2.1 hl
theorem AX.cn (g : AX ks rs ls w u) {x c : Nat} (h : wT w x = c) (hc : c ≠ 0) (hl : ¬ ls x) : ct u x = ct w x := congrArg List.length (g.L h hc hl)
theorem AX.R (g : AX ks rs ls w u) {x c k : Nat} (h : wT w x = c) (hc : c ≠ 0) (hk : k ∉ ks) : wR u k x = wR w k x := ((g x (by rw [h]; exact hc)).2.2.2.1 k hk).1
theorem AX.I (g : AX ks rs ls w u) {x c k : Nat} (h : wT w x = c) (hc : c ≠ 0) (hk : k ∉ ks) : wI u k x = wI w k x := ((g x (by rw [h]; exact hc)).2.2.2.1 k hk).2
theorem AX.A (g : AX ks rs ls w u) {x c : Nat} (h : wT w x = c) (hc : c ≠ 0) (hr : x ∉ rs) : wA u x = wA w x := (g x (by rw [h]; exact hc)).2.2.2.2 hr
def rfI : List Nat := rfL.map fun q => 101 + q.1
theorem rfT (h : RI w) {t : Nat} (ht : t ∈ rfI) : wT w t = 20 := by
  obtain ⟨q, hq, rfl⟩ := List.mem_map.mp ht
  exact (h.2 q hq).2.1
theorem AX.rows (g : AX ks rs ls w u) (h : RI w) {l : List Nat} (h1 : ∀ t ∈ l, t ∈ rfI) (h2 : ∀ t ∈ l, t ∉ rs) : ∀ t, t ∈ l → wA u t = wA w t := fun t ht => g.A (rfT h (h1 t ht)) (by decide) (h2 t ht)
theorem AX.i1 (g : AX ks rs ls w u) (h : RI w) {l : List Nat} (h2 : ∀ k ∈ l, k ∉ ks) : ∀ k, k ∈ l → wI u k 100 = wI w k 100 := fun k hk => g.I h.1 (by decide) (h2 k hk)
theorem AX.i2 (g : AX ks rs ls w u) (h : CIv w) {l : List Nat} (h2 : ∀ k ∈ l, k ∉ ks) : ∀ k, k ∈ l → wI u k 200 = wI w k 200 := fun k hk => g.I h.2.1.1 (by decide) (h2 k hk)
theorem AX.iW (g : AX ks rs ls w u) (h : CIv w) {l : List Nat} (h2 : ∀ k ∈ l, k ∉ ks) {n : Nat} (hn : n < ct w 201) : ∀ k, k ∈ l → wI u k (1000 + n) = wI w k (1000 + n) := fun k hk => g.I (ci_W h hn).1 (by decide) (h2 k hk)
theorem AX.iR (g : AX ks rs ls w u) (h : CIv w) {l : List Nat} (h2 : ∀ k ∈ l, k ∉ ks) {n : Nat} (hn : n < ct w 202) : ∀ k, k ∈ l → wI u k (1200 + n) = wI w k (1200 + n) := fun k hk => g.I (ci_R h hn).1 (by decide) (h2 k hk)
theorem AX.iL (g : AX ks rs ls w u) (h : CIv w) {l : List Nat} (h2 : ∀ k ∈ l, k ∉ ks) {n : Nat} (hn : n < ct w 204) : ∀ k, k ∈ l → wI u k (1900 + n) = wI w k (1900 + n) := fun k hk => g.I (ci_L h hn).1 (by decide) (h2 k hk)
theorem AX.iC (g : AX ks rs ls w u) (h : CIv w) {l : List Nat} (h2 : ∀ k ∈ l, k ∉ ks) {n : Nat} (hn : n < ct w 205) : ∀ k, k ∈ l → wI u k (1700 + n) = wI w k (1700 + n) := fun k hk => g.I (ci_Cr h hn).1 (by decide) (h2 k hk)
theorem AX.c1 (g : AX ks rs ls w u) (h : CIv w) (hl : ¬ ls 201) : ct u 201 = ct w 201 := g.cn (ci_works h).1 (by decide) hl
theorem AX.c2 (g : AX ks rs ls w u) (h : CIv w) (hl : ¬ ls 202) : ct u 202 = ct w 202 := g.cn (ci_rooms h).1 (by decide) hl
theorem AX.c3 (g : AX ks rs ls w u) (h : CIv w) (hl : ¬ ls 203) : ct u 203 = ct w 203 := g.cn (ci_sheets h).1 (by decide) hl
theorem AX.c4 (g : AX ks rs ls w u) (h : CIv w) (hl : ¬ ls 204) : ct u 204 = ct w 204 := g.cn (ci_loans h).1 (by decide) hl
theorem AX.c5 (g : AX ks rs ls w u) (h : CIv w) (hl : ¬ ls 205) : ct u 205 = ct w 205 := g.cn (ci_crates h).1 (by decide) hl
theorem AX.xw (g : AX ks rs ls w u) (hC : CIv w) (hR : RI w) (h : RLw w) (l1 : ¬ ls 201) (hk : ∀ k ∈ [641, 642, 643, 644, 645, 647, 648, 649], k ∉ ks) (hr : ∀ t ∈ [105, 106, 107, 108, 109, 110, 111, 112], t ∉ rs) : RLw u := by
  have bd := hC.bd
  have e1 := g.c1 hC l1
  have aA := g.rows hR (l := [105, 106, 107, 108, 109, 110, 111, 112]) (by decide) hr
  intro n hn
  rw [e1] at hn
  have aI := g.iW hC hk hn
  simp (disch := first | decide | assumption) only [aA, aI]
  exact h n hn
theorem AX.xl (g : AX ks rs ls w u) (hC : CIv w) (hR : RI w) (h : RLl w) (l4 : ¬ ls 204) (l0 : ∀ k, k < 40 → ¬ ls (2000 + k)) (hk : ∀ k ∈ [128, 129, 130, 385, 386], k ∉ ks) (hr : ∀ t ∈ [136, 137, 138, 139, 140, 141], t ∉ rs) : RLl u := by
  have bd := hC.bd
  have e4 := g.c4 hC l4
  have aA := g.rows hR (l := [136, 137, 138, 139, 140, 141]) (by decide) hr
  intro n hn
  rw [e4] at hn
  obtain ⟨L1, L2, L3, L4, L5, L6, L7⟩ := ci_L hC hn
  have aI := g.iL hC hk hn
  have e0 := g.cn L3.2.1 (by decide) (l0 n (by omega))
  simp (disch := first | decide | assumption) only [aA, aI, e0]
  obtain ⟨q1, q2, q3, q4⟩ := h n hn
  refine ⟨q1, q2, q3, fun i hi => ?_⟩
  have cI : ∀ k, k ∈ [128, 129, 130, 385, 386] → wI u k (2100 + 10 * n + i) = wI w k (2100 + 10 * n + i) := fun k z => g.I (L6 i hi).1 (by decide) (hk k z)
  have cR : wR u 128 (2100 + 10 * n + i) = wR w 128 (2100 + 10 * n + i) := g.R (L6 i hi).1 (by decide) (hk 128 (by decide))
  unfold kdN
  rw [cR]
  simp (disch := first | decide | assumption) only [cI]
  exact q4 i hi
theorem AX.xr (g : AX ks rs ls w u) (hC : CIv w) (hR : RI w) (h : RLr w) (l2 : ¬ ls 202) (l0 : ∀ k, k < 40 → ¬ ls (1300 + k)) (hk : ∀ k ∈ [512, 513, 514, 515, 516, 522], k ∉ ks) (hr : ∀ t ∈ [121, 122, 123, 124, 125, 127, 128, 129], t ∉ rs) : RLr u := by
  have bd := hC.bd
  have e2 := g.c2 hC l2
  have aA := g.rows hR (l := [121, 122, 123, 124, 125, 127, 128, 129]) (by decide) hr
  intro n hn
  rw [e2] at hn
  have aI := g.iR hC hk hn
  have eL := g.L (ci_R hC hn).2.2.1.2.1 (by decide) (l0 n (by omega))
  have e0 := g.cn (ci_R hC hn).2.2.1.2.1 (by decide) (l0 n (by omega))
  unfold elN
  simp (disch := first | decide | assumption) only [aA, aI, eL, e0]
  exact h n hn
theorem AX.xk (g : AX ks rs ls w u) (hC : CIv w) (hR : RI w) (h : RLk w) (l5 : ¬ ls 205) (l0 : ∀ k, k < 40 → ¬ ls (1800 + k)) (hk : ∀ k ∈ [192, 193, 195, 196], k ∉ ks) (hr : ∀ t ∈ [143, 144, 145, 146, 147, 148], t ∉ rs) : RLk u := by
  have bd := hC.bd
  have e5 := g.c5 hC l5
  have aA := g.rows hR (l := [143, 144, 145, 146, 147, 148]) (by decide) hr
  intro n hn
  rw [e5] at hn
  have aI := g.iC hC hk hn
  have eL := g.L (ci_Cr hC hn).2.2.1.2.1 (by decide) (l0 n (by omega))
  have e0 := g.cn (ci_Cr hC hn).2.2.1.2.1 (by decide) (l0 n (by omega))
  unfold elN
  simp (disch := first | decide | assumption) only [aA, aI, eL, e0]
  exact h n hn
theorem AX.xu (g : AX ks rs ls w u) (hC : CIv w) (hR : RI w) (h : RLu w) (r1 : 210 ∉ rs) (r2 : 211 ∉ rs) (hr : ∀ t ∈ [158, 159], t ∉ rs) : RLu u := by
  have bd := hC.bd
  have aA := g.rows hR (l := [158, 159]) (by decide) hr
  have o1 := g.A hC.2.1.2.2.2.2.2.2.1.2.1 (by decide) r1
  have o2 := g.A hC.2.1.2.2.2.2.2.2.2.2.1 (by decide) r2
  intro n hn
  simp (disch := first | decide | assumption) only [aA, o1, o2]
  exact h n hn
theorem AX.xs (g : AX ks rs ls w u) (hC : CIv w) (hR : RI w) (h : RLs w) (l3 : ¬ ls 203) (r1 : ∀ q, 1500 + q ∉ rs) (r2 : ∀ q, 1600 + q ∉ rs) (hr : ∀ t ∈ [118, 119], t ∉ rs) : RLs u := by
  have bd := hC.bd
  have e3 := g.c3 hC l3
  have aA := g.rows hR (l := [118, 119]) (by decide) hr
  unfold RLs
  simp (disch := first | decide | assumption) only [aA, e3]
  refine ⟨fun q k hq hk => ?_, h.2⟩
  rw [g.A (ci_S hC hq).2.2.1 (by decide) (r1 q), g.A (ci_S hC hq).2.2.2.2.2.1 (by decide) (r2 q)]
  exact h.1 q k hq hk
theorem AX.xa (g : AX ks rs ls w u) (hC : CIv w) (hR : RI w) (h : RLa w) (l2 : ¬ ls 202) (e3 : ct w 203 ≤ ct u 203) (hk : ∀ k ∈ [518, 519], k ∉ ks) (hr : ∀ t ∈ [126], t ∉ rs) : RLa u := by
  have bd := hC.bd
  have e2 := g.c2 hC l2
  have aA := g.rows hR (l := [126]) (by decide) hr
  intro n hn
  rw [e2] at hn
  have aI := g.iR hC hk hn
  have aR := g.R (k := 518) (ci_R hC hn).1 (by decide) (hk 518 (by decide))
  simp (disch := first | decide | assumption) only [aA, aI, aR]
  rcases h n hn with z | ⟨q, k, hq, hk, z⟩
  · exact Or.inl z
  · exact Or.inr ⟨q, k, Nat.lt_of_lt_of_le hq e3, hk, z⟩
theorem AX.xg (g : AX ks rs ls w u) (hC : CIv w) (hR : RI w) (h : RLg w) (l1 : ¬ ls 201) (l2 : ¬ ls 202) (l0 : ∀ k, k < 40 → ¬ ls (1300 + k)) (hk : ∀ k ∈ [647, 648, 650], k ∉ ks) : RLg u := by
  have bd := hC.bd
  have e1 := g.c1 hC l1
  have e2 := g.c2 hC l2
  unfold RLg
  rw [e1, e2]
  refine ⟨fun r hr => ?_, fun n hn => ?_⟩
  · rw [g.L (ci_R hC hr).2.2.1.2.1 (by decide) (l0 r (by omega))]
    refine ⟨(h.1 r hr).1, fun n hn => ?_⟩
    rw [g.R (k := 650) (ci_W hC hn).1 (by decide) (hk 650 (by decide))]
    exact (h.1 r hr).2 n hn
  · have aI := g.iW hC hk hn
    rw [g.R (k := 650) (ci_W hC hn).1 (by decide) (hk 650 (by decide))]
    simp (disch := first | decide | assumption) only [aI]
    exact h.2 n hn
theorem AX.xd (g : AX ks rs ls w u) (hC : CIv w) (hR : RI w) (h : RLd w) (l1 : ¬ ls 201) (l5 : ¬ ls 205) (l0 : ∀ k, k < 40 → ¬ ls (1800 + k)) (hk : ∀ k ∈ [647, 648], k ∉ ks) : RLd u := by
  have bd := hC.bd
  have e1 := g.c1 hC l1
  have e5 := g.c5 hC l5
  unfold RLd
  rw [e1, e5]
  intro c hc
  rw [g.L (ci_Cr hC hc).2.2.1.2.1 (by decide) (l0 c (by omega))]
  refine ⟨(h c hc).1, fun n hn hm => ?_⟩
  have aI := g.iW hC hk hn
  simp (disch := first | decide | assumption) only [aI]
  exact (h c hc).2 n hn hm
theorem AX.xn (g : AX ks rs ls w u) (hC : CIv w) (hR : RI w) (h : RLn w) (l1 : ¬ ls 201) (l0 : ∀ k, k < 40 → ¬ ls (1100 + k)) (hk : ∀ k ∈ [320, 321, 322, 771], k ∉ ks) (hr : ∀ t ∈ [113, 114, 115, 116], t ∉ rs) : RLn u := by
  have bd := hC.bd
  have e1 := g.c1 hC l1
  have aA := g.rows hR (l := [113, 114, 115, 116]) (by decide) hr
  have a1 := g.i1 hR hk
  unfold RLn
  simp (disch := first | decide | assumption) only [aA, a1, e1]
  refine ⟨fun n hn => ?_, h.2⟩
  rw [← h.1 n hn, g.L (ci_W hC hn).2.2.1.2.1 (by decide) (l0 n (by omega))]
  refine List.map_congr_left fun q hq => ?_
  have hT := (ci_W hC hn).2.2.2.1 q hq
  unfold lnV
  rw [g.I (k := 320) hT (by decide) (hk 320 (by decide)), g.I (k := 321) hT (by decide) (hk 321 (by decide)), g.I (k := 322) hT (by decide) (hk 322 (by decide))]
theorem AX.xm {m : Nat} (g : AX ks rs ls w u) (hC : CIv w) (hR : RI w) (h : RLm m w) (l1 : ¬ ls 201) (l0 : ∀ k, k < 40 → ¬ ls (1100 + k)) (hk : ∀ k ∈ [67, 716, 771], k ∉ ks) : RLm m u := by
  have bd := hC.bd
  have e1 := g.c1 hC l1
  have a1 := g.i1 hR hk
  have a2 := g.i2 hC hk
  have a3 := g.I (k := 67) (ci_BK hC).1 (by decide) (hk 67 (by decide))
  unfold RLm
  simp (disch := first | decide | assumption) only [a1, a2, a3, e1]
  refine ⟨h.1, fun n hn => ?_, h.2.2⟩
  rw [g.cn (ci_W hC hn).2.2.1.2.1 (by decide) (l0 n (by omega))]
  exact h.2.1 n hn
theorem AX.xt (g : AX ks rs ls w u) (hC : CIv w) (hR : RI w) (h : RLt w) (r1 : 209 ∉ rs) (hk : ∀ k ∈ [715], k ∉ ks) (hr : ∀ t ∈ [135], t ∉ rs) : RLt u := by
  have bd := hC.bd
  have aA := g.rows hR (l := [135]) (by decide) hr
  have a2 := g.i2 hC hk
  have o1 := g.A hC.2.1.2.2.2.2.2.1.2.1 (by decide) r1
  unfold RLt
  simp (disch := first | decide | assumption) only [aA, a2, o1]
  exact h
theorem AX.xb (g : AX ks rs ls w u) (hC : CIv w) (hR : RI w) (h : RLb w) (r1 : ∀ t ∈ [212, 213, 214], t ∉ rs) (hk : ∀ k ∈ [67, 816], k ∉ ks) (hr : ∀ t ∈ [150, 151, 152], t ∉ rs) : RLb u := by
  have bd := hC.bd
  have aA := g.rows hR (l := [150, 151, 152]) (by decide) hr
  have a1 := g.i1 hR hk
  have a3 := g.I (k := 67) (ci_BK hC).1 (by decide) (hk 67 (by decide))
  have o1 := g.A (ci_BK hC).2.1.2.1 (by decide) (r1 212 (by decide))
  have o2 := g.A (ci_BK hC).2.2.1.2.1 (by decide) (r1 213 (by decide))
  have o3 := g.A (ci_BK hC).2.2.2.2.1 (by decide) (r1 214 (by decide))
  unfold RLb
  simp (disch := first | decide | assumption) only [aA, a1, a3, o1, o2, o3]
  exact h
theorem AX.xv (g : AX ks rs ls w u) (hC : CIv w) (hR : RI w) (h : RLv w) (l1 : ¬ ls 201) (l2 : ¬ ls 202) (l5 : ¬ ls 205) (hr : ∀ t ∈ [110, 127, 128, 145], t ∉ rs) : RLv u := by
  have bd := hC.bd
  have e1 := g.c1 hC l1
  have e2 := g.c2 hC l2
  have e5 := g.c5 hC l5
  have aA := g.rows hR (l := [110, 127, 128, 145]) (by decide) hr
  unfold RLv
  simp (disch := first | decide | assumption) only [aA, e1, e2, e5]
  exact h
theorem AX.xz (g : AX ks rs ls w u) (hC : CIv w) (hR : RI w) (h : RLz w) (l1 : ¬ ls 201) (hk : ∀ k ∈ [643], k ∉ ks) : RLz u := by
  have bd := hC.bd
  have e1 := g.c1 hC l1
  intro n hn
  rw [e1] at hn
  have aI := g.iW hC hk hn
  simp (disch := first | decide | assumption) only [aI]
  exact h n hn
theorem AX.xc (g : AX ks rs ls w u) (hC : CIv w) (hR : RI w) (h : RLc w) (l1 : ¬ ls 201) (l2 : ¬ ls 202) (l3 : ¬ ls 203) (l4 : ¬ ls 204) (l5 : ¬ ls 205) (hk : ∀ k ∈ [715, 716, 769, 770, 784, 787, 797, 798, 809], k ∉ ks) : RLc u := by
  have bd := hC.bd
  have e1 := g.c1 hC l1
  have e2 := g.c2 hC l2
  have e3 := g.c3 hC l3
  have e4 := g.c4 hC l4
  have e5 := g.c5 hC l5
  have a1 := g.i1 hR hk
  have a2 := g.i2 hC hk
  unfold RLc
  simp (disch := first | decide | assumption) only [a1, a2, e1, e2, e3, e4, e5]
  exact h
theorem AX.xo (g : AX ks rs ls w u) (h : RLo w) : RLo u := ⟨g.T h.1 (by decide), by rw [g.N h.1 (by decide)]; exact h.2.1, g.T h.2.2 (by decide)⟩
theorem AX.xri (g : AX ks rs ls w u) (h : RI w) (hk : ∀ q ∈ rfL, 768 + q.1 ∉ ks) : RI u := by
  refine ⟨g.T h.1 (by decide), fun q hq => ?_⟩
  obtain ⟨a, b, c⟩ := h.2 q hq
  refine ⟨by rw [g.R h.1 (by decide) (hk q hq)]; exact a, g.T b (by decide), by rw [g.N b (by decide)]; exact c⟩
theorem AX.xrb (g : AX ks rs ls w u) (hR : RI w) (h : RB w) (hk : ∀ k ∈ [769, 770, 771, 784, 787, 797, 798, 809], k ∉ ks) (hr : ∀ t ∈ [118, 126, 128, 129, 138, 145, 146], t ∉ rs) : RB u := by
  have a1 := g.i1 hR hk
  have aA := g.rows hR (l := [118, 126, 128, 129, 138, 145, 146]) (by decide) hr
  unfold RB
  simp (disch := decide) only [a1, aA]
  exact h
theorem AX.xrk (g : AX ks rs ls w u) (hR : RI w) (h : RB w) (k770 : 770 ∉ ks ∨ rng (wI u 770 100) 40) (k771 : 771 ∉ ks ∨ rng (wI u 771 100) 2190) (k784 : 784 ∉ ks ∨ rng (wI u 784 100) 4) (k787 : 787 ∉ ks ∨ rng (wI u 787 100) 20) (k797 : 797 ∉ ks ∨ rng (wI u 797 100) 200) (k798 : 798 ∉ ks ∨ rng (wI u 798 100) 30) (k809 : 809 ∉ ks ∨ rng (wI u 809 100) 20) (k769 : 769 ∉ ks ∨ rng (wI u 769 100) 200000) (r145 : 145 ∉ rs ∨ ∀ j, j < 20 → rng (wA u 145 j) 4) (r146 : 146 ∉ rs ∨ ∀ j, j < 80 → vp_in (wA u 146 j) 40) (r128 : 128 ∉ rs ∨ ∀ j, j < 20 → rng (wA u 128 j) 40) (r129 : 129 ∉ rs ∨ ∀ j, j < 800 → vp_in (wA u 129 j) 40) (r138 : 138 ∉ rs ∨ ∀ j, j < 31 → rng (wA u 138 j) 10) (r118 : 118 ∉ rs ∨ ∀ j, j < 40 → wA u 118 j = -1 ∨ rng (wA u 118 j) 24) (r126 : 126 ∉ rs ∨ ∀ j, j < 20 → wA u 126 j = -1 ∨ rng (wA u 126 j) 39) : RB u := by
  obtain ⟨q0, q1, q2, q3, q4, q5, q6, q7, q8, q9, q10, q11, q12, q13, q14⟩ := h
  refine ⟨?_, ?_, ?_, ?_, ?_, ?_, ?_, ?_, ?_, ?_, ?_, ?_, ?_, ?_, ?_⟩
  · rcases k770 with z | z
    · rw [g.I hR.1 (by decide) z]; exact q0
    · exact z
  · rcases k771 with z | z
    · rw [g.I hR.1 (by decide) z]; exact q1
    · exact z
  · rcases k784 with z | z
    · rw [g.I hR.1 (by decide) z]; exact q2
    · exact z
  · rcases k787 with z | z
    · rw [g.I hR.1 (by decide) z]; exact q3
    · exact z
  · rcases k797 with z | z
    · rw [g.I hR.1 (by decide) z]; exact q4
    · exact z
  · rcases k798 with z | z
    · rw [g.I hR.1 (by decide) z]; exact q5
    · exact z
  · rcases k809 with z | z
    · rw [g.I hR.1 (by decide) z]; exact q6
    · exact z
  · rcases k769 with z | z
    · rw [g.I hR.1 (by decide) z]; exact q7
    · exact z
  · rcases r145 with z | z
    · rw [g.A (rfT hR (t := 145) (by decide)) (by decide) z]; exact q8
    · exact z
  · rcases r146 with z | z
    · rw [g.A (rfT hR (t := 146) (by decide)) (by decide) z]; exact q9
    · exact z
  · rcases r128 with z | z
    · rw [g.A (rfT hR (t := 128) (by decide)) (by decide) z]; exact q10
    · exact z
  · rcases r129 with z | z
    · rw [g.A (rfT hR (t := 129) (by decide)) (by decide) z]; exact q11
    · exact z
  · rcases r138 with z | z
    · rw [g.A (rfT hR (t := 138) (by decide)) (by decide) z]; exact q12
    · exact z
  · rcases r118 with z | z
    · rw [g.A (rfT hR (t := 118) (by decide)) (by decide) z]; exact q13
    · exact z
  · rcases r126 with z | z
    · rw [g.A (rfT hR (t := 126) (by decide)) (by decide) z]; exact q14
    · exact z
theorem RLf.st (h : RLf w) (N : Nat → Prop) (hT : ∀ x, ¬ N x → wT u x = wT w x) (c1 : ct w 201 ≤ ct u 201) (c2 : ct w 202 ≤ ct u 202) (c3 : ct w 203 ≤ ct u 203) (c4 : ct w 204 ≤ ct u 204) (c5 : ct w 205 ≤ ct u 205) (cl : (wI w 771 100).toNatClampNeg ≤ (wI u 771 100).toNatClampNeg) (n1 : ∀ n, ct u 201 ≤ n → n < 40 → ¬ N (1000 + n) ∧ ¬ N (1100 + n)) (n2 : ∀ n, ct u 202 ≤ n → n < 20 → ¬ N (1200 + n) ∧ ¬ N (1300 + n)) (n3 : ∀ n, ct u 203 ≤ n → n < 4 → ¬ N (1400 + n) ∧ ¬ N (1500 + n) ∧ ¬ N (1600 + n)) (n5 : ∀ n, ct u 205 ≤ n → n < 20 → ¬ N (1700 + n) ∧ ¬ N (1800 + n)) (n4 : ∀ n, ct u 204 ≤ n → n < 30 → ¬ N (1900 + n) ∧ ¬ N (2000 + n) ∧ ∀ i, i < 10 → ¬ N (2100 + 10 * n + i)) (n6 : ¬ N 223) (n7 : ∀ g, (wI u 771 100).toNatClampNeg ≤ g → ¬ N (3000 + g)) : RLf u := by
  obtain ⟨h1, h2, h3, h5, h4, h6, h7⟩ := h
  refine ⟨fun n a b => ?_, fun n a b => ?_, fun n a b => ?_, fun n a b => ?_, fun n a b => ?_, ?_, fun n a => ?_⟩
  · rw [hT _ (n1 n a b).1, hT _ (n1 n a b).2]; exact h1 n (by omega) b
  · rw [hT _ (n2 n a b).1, hT _ (n2 n a b).2]; exact h2 n (by omega) b
  · rw [hT _ (n3 n a b).1, hT _ (n3 n a b).2.1, hT _ (n3 n a b).2.2]; exact h3 n (by omega) b
  · rw [hT _ (n5 n a b).1, hT _ (n5 n a b).2]; exact h5 n (by omega) b
  · rw [hT _ (n4 n a b).1, hT _ (n4 n a b).2.1]
    refine ⟨(h4 n (by omega) b).1, (h4 n (by omega) b).2.1, fun i hi => ?_⟩
    rw [hT _ ((n4 n a b).2.2 i hi)]; exact (h4 n (by omega) b).2.2 i hi
  · rw [hT _ n6]; exact h6
  · rw [hT _ (n7 n a)]; exact h7 n (by omega)
end

