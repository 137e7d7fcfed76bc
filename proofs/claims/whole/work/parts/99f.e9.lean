theorem nodup_sub : ∀ (l r : List Nat), l.Nodup → (∀ x ∈ l, x ∈ r) → l.length ≤ r.length
  | [], _, _, _ => Nat.zero_le _
  | x :: l, r, hn, h => by
    obtain ⟨h1, h2⟩ := List.nodup_cons.mp hn
    have hx : x ∈ r := h x List.mem_cons_self
    have := nodup_sub l (r.erase x) h2 (fun y hy => (List.mem_erase_of_ne (fun e => h1 (by rw [← e]; exact hy))).mpr (h y (List.mem_cons_of_mem _ hy)))
    rw [List.length_erase_of_mem hx] at this
    have hr := List.length_pos_of_mem hx
    rw [List.length_cons]
    omega
theorem mk_full {m : Nat} {r : List Nat} (hn : r.Nodup) (hr : ∀ x ∈ r, x < m) : mk r = 2 ^ m - 1 ↔ r.length = m := by
  constructor
  · intro h
    have h1 := php m r hn hr
    have h2 := nodup_sub (List.range m) r List.nodup_range (fun x hx => by
      rw [← mk_bit, h, Nat.testBit_two_pow_sub_one, decide_eq_true_iff]
      exact List.mem_range.mp hx)
    rw [List.length_range] at h2
    omega
  · intro h
    apply Nat.eq_of_testBit_eq
    intro i
    rw [Nat.testBit_two_pow_sub_one]
    by_cases hi : i < m
    · rw [decide_eq_true hi]
      by_cases c : i ∈ r
      · exact (mk_bit i r).mpr c
      · have := php m (i :: r) (List.nodup_cons.mpr ⟨c, hn⟩) (fun x hx => by
          rcases List.mem_cons.mp hx with e | e
          · rw [e]; exact hi
          · exact hr x e)
        rw [List.length_cons] at this
        omega
    · rw [decide_eq_false hi]
      cases hb : (mk r).testBit i
      · rfl
      · exact absurd (hr i ((mk_bit i r).mp hb)) hi
theorem mk_lt2 {m : Nat} : ∀ r : List Nat, (∀ x ∈ r, x < m) → mk r < 2 ^ m
  | [], _ => Nat.pow_pos (by decide)
  | x :: r, h => hb_lt (mk_lt2 r (fun y hy => h y (List.mem_cons_of_mem _ hy))) (h x List.mem_cons_self)
def mrgK (f : Nat → Option (Nat × List Nat)) : Nat → Option (Nat × List Nat)
  | 0 => none
  | k + 1 => mrg (mrgK f k) (f k)
/-- the first of the best orders that go on from r; d: how many works are to come -/
def Bst (m : Nat) (may : List Nat → Nat → Bool) (H : Nat → Nat) : Nat → List Nat → Option (Nat × List Nat)
  | 0, r => some (costN H r, r)
  | d + 1, r => mrgK (fun i => if may r i = true then Bst m may H d (i :: r) else none) m
theorem fold_flat {H : Nat → Nat} {E : Nat → List (List Nat)} : ∀ k, ((List.range k).flatMap E).foldl (updO H) none = mrgK (fun i => (E i).foldl (updO H) none) k
  | 0 => rfl
  | k + 1 => by
    rw [List.range_succ, List.flatMap_append, List.foldl_append, fold_flat k, fold_mrg, mrgK]
    congr 1
    rw [List.flatMap_cons, List.flatMap_nil, List.append_nil]
theorem valO_flat {m : Nat} {may : List Nat → Nat → Bool} (r : List Nat) (k : Nat) : valO m may 0 r k 0 = (List.range k).flatMap (fun i => if may r i = true then [i :: r] else []) := by
  rw [valO]
  simp only [Nat.zero_add]
  induction List.range k with
  | nil => rfl
  | cons i l ih =>
    rw [List.flatMap_cons, List.filter_cons]
    by_cases h : may r i = true
    · rw [if_pos h, if_pos h, List.map_cons, ih]; rfl
    · rw [if_neg h, if_neg h, ih]; rfl
theorem fm_val {m : Nat} {may : List Nat → Nat → Bool} {H : Nat → Nat} : ∀ d r, (valO m may d r m 0).foldl (updO H) none = Bst m may H (d + 1) r
  | 0, r => by
    rw [valO_flat, fold_flat, Bst]
    congr 1
    funext i
    by_cases h : may r i = true
    · rw [if_pos h, if_pos h]; rfl
    · rw [if_neg h, if_neg h]; rfl
  | d + 1, r => by
    rw [valO, fold_flat, Bst]
    congr 1
    funext i
    rw [Nat.zero_add]
    by_cases h : may r i = true
    · rw [if_pos h, if_pos h, fm_val d]
    · rw [if_neg h, if_neg h]; rfl
theorem mrgK_le {H : Nat → Nat} {f : Nat → Option (Nat × List Nat)} {b : Nat} (h : ∀ i x, f i = some x → b ≤ x.1 ∧ x.1 ≤ 4000) : ∀ k x, mrgK f k = some x → b ≤ x.1 ∧ x.1 ≤ 4000
  | 0, x, e => by cases e
  | k + 1, x, e => by
    have ih := mrgK_le (H := H) h k
    rw [mrgK] at e
    cases h1 : mrgK f k with
    | none => rw [h1] at e; exact h k x e
    | some y =>
      cases h2 : f k with
      | none => rw [h1, h2] at e; cases e; exact ih x h1
      | some u =>
        rw [h1, h2] at e
        have e : (if u.1 < y.1 then some u else some y) = some x := e
        split at e
        · cases e; exact h k x h2
        · cases e; exact ih x h1
theorem Bst_le {m : Nat} {may : List Nat → Nat → Bool} {H : Nat → Nat} (hH : ∀ i, H i ≤ 500) (hm : m ≤ 7) : ∀ d r x, r.length + d = m → Bst m may H d r = some x → costN H r ≤ x.1 ∧ x.1 ≤ 4000
  | 0, r, x, hr, e => by
    cases e
    have := costN_le hH r
    exact ⟨Nat.le_refl _, by show costN H r ≤ 4000; omega⟩
  | d + 1, r, x, hr, e => by
    rw [Bst] at e
    refine mrgK_le (H := H) (fun i y hy => ?_) m x e
    by_cases h : may r i = true
    · rw [if_pos h] at hy
      have := Bst_le hH hm d (i :: r) y (by rw [List.length_cons]; omega) hy
      refine ⟨Nat.le_trans ?_ this.1, this.2⟩
      cases r with
      | nil => exact Nat.zero_le _
      | cons l r => rw [costN]; exact Nat.le_add_right _ _
    · rw [if_neg h] at hy; cases hy
/-- what is left to pay behind r -/
def gN (H : Nat → Nat) (o : Option (Nat × List Nat)) (r : List Nat) : Nat := match o with
  | none => 1000000
  | some x => x.1 - costN H r
