/-- worlds of the reference that differ in its rows for orders alone -/
def HRS (u w : AW) : Prop := wT u = wT w ∧ wR u = wR w ∧ wN u = wN w ∧ wL u = wL w ∧ wP u = wP w ∧ wJ u = wJ w ∧ (∀ q x, q ∉ [823, 824] → wI u q x = wI w q x) ∧ ∀ t, t ∉ [153, 154, 155] → wA u t = wA w t
theorem HRS.refl (w : AW) : HRS w w := ⟨rfl, rfl, rfl, rfl, rfl, rfl, fun _ _ _ => rfl, fun _ _ => rfl⟩
theorem HRS.sI {u w : AW} (h : HRS u w) {k i : Nat} {v : Int32} (hk : k ∈ [823, 824]) : HRS (sI u k i v) w := ⟨h.1, h.2.1, h.2.2.1, h.2.2.2.1, h.2.2.2.2.1, h.2.2.2.2.2.1, fun k' x hk' => by
  rw [wI_sI, if_neg (fun z => hk' (by rw [z]; exact hk))]; exact h.2.2.2.2.2.2.1 k' x hk', h.2.2.2.2.2.2.2⟩
theorem HRS.sA {u w : AW} (h : HRS u w) {t i : Nat} {v : Int32} (ht : t ∈ [153, 154, 155]) : HRS (sA u t i v) w := ⟨h.1, h.2.1, h.2.2.1, h.2.2.2.1, h.2.2.2.2.1, h.2.2.2.2.2.1, h.2.2.2.2.2.2.1, fun y hy => (wAs (fun z => hy (by rw [z]; exact ht))).trans (h.2.2.2.2.2.2.2 y hy)⟩
theorem HRS.ri {u w : AW} (h : HRS u w) : RI u = RI w := by
  unfold RI
  rw [h.1, h.2.1, h.2.2.1]
theorem HRS.rb {u w : AW} (h : HRS u w) : RB u = RB w := by
  have e : ∀ k, k ∉ [823, 824] → wI u k 100 = wI w k 100 := fun k hk => h.2.2.2.2.2.2.1 k 100 hk
  have a : ∀ t, t ∉ [153, 154, 155] → wA u t = wA w t := h.2.2.2.2.2.2.2
  unfold RB
  rw [e 770 (by decide), e 771 (by decide), e 784 (by decide), e 787 (by decide), e 797 (by decide), e 798 (by decide), e 809 (by decide), e 769 (by decide), a 145 (by decide), a 146 (by decide), a 128 (by decide), a 129 (by decide), a 138 (by decide), a 118 (by decide), a 126 (by decide)]
theorem HRS.nm {u w : AW} (h : HRS u w) (x y : Int32) : rNames u x y = rNames w x y := by
  have e : ∀ k, k ∉ [823, 824] → wI u k 100 = wI w k 100 := fun k hk => h.2.2.2.2.2.2.1 k 100 hk
  have a : ∀ t, t ∉ [153, 154, 155] → wA u t = wA w t := h.2.2.2.2.2.2.2
  unfold rNames rForce
  rw [e 798 (by decide), e 769 (by decide), a 105 (by decide), a 136 (by decide), a 137 (by decide), a 138 (by decide), a 139 (by decide), a 140 (by decide)]
theorem HRS.ap {u w : AW} (h : HRS u w) (s : Nat → Nat) : oAp u s = oAp w s := by
  funext i j
  unfold oAp rApart
  rw [h.nm, h.nm]
theorem HRS.ch {u w : AW} (h : HRS u w) (s : Nat → Nat) : oCh u s = oCh w s := by
  funext i
  unfold oCh
  rw [h.2.2.2.2.2.2.2 109 (by decide)]
def tf (r : List Nat) (i : Nat) : Nat := (r.reverse[i]?).getD 0
theorem tf_l (c : Nat) (r : List Nat) : tf (c :: r) r.length = c := by
  unfold tf
  rw [List.reverse_cons, List.getElem?_append_right (by rw [List.length_reverse]; exact Nat.le_refl _), List.length_reverse, Nat.sub_self]; rfl
theorem tf_o {c : Nat} {r : List Nat} {i : Nat} (h : i < r.length) : tf (c :: r) i = tf r i := by
  unfold tf
  rw [List.reverse_cons, List.getElem?_append_left (by rw [List.length_reverse]; exact h)]
theorem tf_lt {r : List Nat} {m i : Nat} (h : ∀ x ∈ r, x < m) (hi : i < r.length) : tf r i < m := by
  unfold tf
  have hi' : i < r.reverse.length := by rw [List.length_reverse]; exact hi
  rw [List.getElem?_eq_getElem hi']
  exact h _ (List.mem_reverse.mp (List.getElem_mem hi'))
abbrev OS : Type := Int32 × List Nat
def foK (g : Nat → OS → OS) : Nat → Nat → OS → OS
  | 0, _, st => st
  | k + 1, c, st => foK g k (c + 1) (g c st)
/-- all orders that go on from r with one of the last k works; d: how many more come behind that one -/
def foC (m : Nat) (may : List Nat → Nat → Bool) (leaf : List Nat → OS → OS) : Nat → List Nat → Nat → Nat → OS → OS
  | 0, r, k, c, st => foK (fun c st => if may r c = true then leaf (c :: r) st else st) k c st
  | d + 1, r, k, c, st => foK (fun c st => if may r c = true then foC m may leaf d (c :: r) m 0 st else st) k c st
def sgF (h : Nat → Int32) (t : Nat → Nat) : Nat → Int32
  | 0 => 0
  | k + 1 => if k = 0 then 0 else sgF h t k + (if 0 ≤ h (t k) - h (t (k - 1)) then h (t k) - h (t (k - 1)) else -(h (t k) - h (t (k - 1))))
def lfO (h : Nat → Int32) (m : Nat) (r : List Nat) (st : OS) : OS := if st.1 = -1 ∨ sgF h (tf r) m < st.1 then (sgF h (tf r) m, r.reverse) else st
def seR (b : Int32) : Nat → Nat → List Nat → Option (List Nat)
  | 0, _, l => some l
  | d + 1, k, l => if b >>> (nI k &&& 31) &&& 1 = 0 then seR b d (k + 1) l else if l.length = 7 then none else seR b d (k + 1) (l ++ [k])
def awR (f : Nat → Int32) (l : List Nat) : Int32 := l.foldl (fun x k => x + (f k + 30)) (-30)
theorem awR_app (f : Nat → Int32) (l : List Nat) (k : Nat) : awR f (l ++ [k]) = awR f l + (f k + 30) := by unfold awR; rw [List.foldl_append]; rfl
/-- what the search over the works l finds -/
def foR (w : AW) (l : List Nat) : OS := foC l.length (fun r c => msF (oAp w (ge l)) (oCh w (ge l)) (tf (c :: r)) r.length) (lfO (fun i => wA w 107 (ge l i)) l.length) (l.length - 1) [] l.length 0 (-1, [])
/-- the state of the search: u against w, works s, what is best so far -/
def SEA (w u : AW) (m : Nat) (s : Nat → Nat) (st : OS) : Prop := HRS u w ∧ wI u 823 100 = nI m ∧ (∀ i, i < m → wA u 153 i = nI (s i)) ∧ wI u 824 100 = st.1 ∧ (¬ st.1 = -1 → ∀ i, i < m → wA u 155 i = nI (s ((st.2[i]?).getD 0)))
