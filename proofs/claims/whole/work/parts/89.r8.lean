/-- the reference's world behind some of a clause: u against w, clause k of loan l -/
def RCL (w u : AW) (l k a : Nat) (b : Int32) : Prop := wT u = wT w ∧ wR u = wR w ∧ wN u = wN w ∧ wL u = wL w ∧ wP u = wP w ∧ wJ u = wJ w ∧ (∀ q x, q ≠ 800 → q ≠ 801 → wI u q x = wI w q x) ∧ (wI u 800 100 = nI a ∧ wI u 801 100 = b) ∧ (∀ t, t ∉ [138, 139, 140, 141] → wA u t = wA w t) ∧ (∀ i, i ≠ k → wA u 139 i = wA w 139 i ∧ wA u 140 i = wA w 140 i ∧ wA u 141 i = wA w 141 i) ∧ ∀ i, i ≠ l → wA u 138 i = wA w 138 i
theorem RCL.ri {w u : AW} {l k a : Nat} {b : Int32} (h : RCL w u l k a b) : RI u = RI w := by
  unfold RI
  rw [h.1, h.2.1, h.2.2.1]
theorem RCL.a {w u : AW} {l k a : Nat} {b : Int32} (h : RCL w u l k a b) (a' : Nat) : RCL w (sI u 800 100 (nI a')) l k a' b := by
  obtain ⟨h1, h2, h3, h4, h5, h6, h7, ⟨h8, h9⟩, h10, h11, h12⟩ := h
  exact ⟨h1, h2, h3, h4, h5, h6, fun q x hq hq2 => by rw [wI_sI, if_neg hq]; exact h7 q x hq hq2, ⟨by rw [wI_sI, if_pos rfl, if_pos rfl], by rw [wI_sI, if_neg (by decide)]; exact h9⟩, h10, h11, h12⟩
theorem RCL.b {w u : AW} {l k a : Nat} {b : Int32} (h : RCL w u l k a b) (b' : Int32) : RCL w (sI u 801 100 b') l k a b' := by
  obtain ⟨h1, h2, h3, h4, h5, h6, h7, ⟨h8, h9⟩, h10, h11, h12⟩ := h
  exact ⟨h1, h2, h3, h4, h5, h6, fun q x hq hq2 => by rw [wI_sI, if_neg hq2]; exact h7 q x hq hq2, ⟨by rw [wI_sI, if_neg (by decide)]; exact h8, by rw [wI_sI, if_pos rfl, if_pos rfl]⟩, h10, h11, h12⟩
theorem RCL.p {w u : AW} {l k a : Nat} {b : Int32} (h : RCL w u l k a b) (a' : Nat) (b' : Int32) : RCL w (pW u a' b') l k a' b' := (h.a a').b b'
theorem RCL.c {w u : AW} {l k a t : Nat} {b v : Int32} (h : RCL w u l k a b) (ht : t = 139 ∨ t = 140 ∨ t = 141) : RCL w (sA u t k v) l k a b := by
  obtain ⟨h1, h2, h3, h4, h5, h6, h7, h8, h10, h11, h12⟩ := h
  refine ⟨h1, h2, h3, h4, h5, h6, h7, h8, fun y hy => ?_, fun i hi => ?_, fun i hi => ?_⟩
  · simp only [List.mem_cons, List.not_mem_nil, or_false, not_or] at hy
    rw [wAs (by omega)]
    exact h10 y (by simp only [List.mem_cons, List.not_mem_nil, or_false, not_or]; exact hy)
  · simp only [wA_sA, hi, if_false, ite_self]
    exact h11 i hi
  · rw [wAs (by omega)]; exact h12 i hi
theorem RCL.m {w u : AW} {l k a : Nat} {b v : Int32} (h : RCL w u l k a b) : RCL w (sA u 138 l v) l k a b := by
  obtain ⟨h1, h2, h3, h4, h5, h6, h7, h8, h10, h11, h12⟩ := h
  refine ⟨h1, h2, h3, h4, h5, h6, h7, h8, fun y hy => ?_, fun i hi => ?_, fun i hi => ?_⟩
  · simp only [List.mem_cons, List.not_mem_nil, or_false, not_or] at hy
    rw [wAs (by omega)]
    exact h10 y (by simp only [List.mem_cons, List.not_mem_nil, or_false, not_or]; exact hy)
  · rw [wAs (by decide), wAs (by decide), wAs (by decide)]; exact h11 i hi
  · rw [wAn hi]; exact h12 i hi
theorem RCL.of {w : AW} {l k a : Nat} {b : Int32} (h1 : wI w 800 100 = nI a) (h2 : wI w 801 100 = b) : RCL w w l k a b := ⟨rfl, rfl, rfl, rfl, rfl, rfl, fun _ _ _ _ => rfl, ⟨h1, h2⟩, fun _ _ => rfl, fun _ _ => ⟨rfl, rfl, rfl⟩, fun _ _ => rfl⟩
def rsm (f : Nat → Int32) : Nat → Nat → Nat
  | 0, k => k
  | m + 1, k => if 97 ≤ f k ∧ f k ≤ 122 then rsm f m (k + 1) else k
theorem rsm_le (f : Nat → Int32) : ∀ m k, k ≤ rsm f m k ∧ rsm f m k ≤ k + m
  | 0, k => ⟨Nat.le_refl _, Nat.le_refl _⟩
  | m + 1, k => by
    have := rsm_le f m (k + 1)
    rw [rsm]
    split <;> omega
def kOf (a : Int64) : Int32 := if a = 110765235 then 0 else if a = 22499628 then 1 else if a = 12885268 then 2 else if a = 132528 then 3 else if a = 595572 then 4 else if a = 1574484 then 5 else -1
def sp (f : Nat → Int32) (n a : Nat) : Nat := skp f (n - a) a
def hr (f : Nat → Int32) (n a : Nat) : Int32 := if sp f n a < n then f (sp f n a) else 0
theorem sp_le {f : Nat → Int32} {n a : Nat} (h : a ≤ n) : a ≤ sp f n a ∧ sp f n a ≤ n := by
  have := skp_le f (n - a) a
  unfold sp
  omega
/-- the cities of a clause: fuel, where it stands, its bits; then where it stands, the fault and the bits -/
def rci (f : Nat → Int32) (n : Nat) : Nat → Nat → Int32 → Nat × Int32 × Int32
  | 0, a, c => (a, -1, c)
  | d + 1, a, c => if (dgF f n 4 (sp f n a)).2.2 = -1 then (if 48 ≤ hr f n (dgF f n 4 (sp f n a)).2.1 ∧ hr f n (dgF f n 4 (sp f n a)).2.1 ≤ 57 then rci f n d (sp f n (dgF f n 4 (sp f n a)).2.1) (c ||| 1 <<< ((dgF f n 4 (sp f n a)).1 &&& 31)) else (sp f n (dgF f n 4 (sp f n a)).2.1, -1, c ||| 1 <<< ((dgF f n 4 (sp f n a)).1 &&& 31))) else (sp f n (dgF f n 4 (sp f n a)).2.1, (dgF f n 4 (sp f n a)).2.2, c)
