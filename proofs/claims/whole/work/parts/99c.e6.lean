/-- all orders, the last work first, that go on from r: the next of them c or one of the k - 1 behind it, then d more -/
def allO (m : Nat) : Nat → List Nat → Nat → Nat → List (List Nat)
  | 0, r, k, c => (List.range k).map (fun i => (c + i) :: r)
  | d + 1, r, k, c => (List.range k).flatMap (fun i => allO m d ((c + i) :: r) m 0)
/-- each of the works behind the first n may stand there -/
def okL (may : List Nat → Nat → Bool) (n : Nat) : List Nat → Bool
  | [] => true
  | c :: r => if r.length < n then true else may r c && okL may n r
def valO (m : Nat) (may : List Nat → Nat → Bool) : Nat → List Nat → Nat → Nat → List (List Nat)
  | 0, r, k, c => ((List.range k).filter (fun i => may r (c + i))).map (fun i => (c + i) :: r)
  | d + 1, r, k, c => (List.range k).flatMap (fun i => if may r (c + i) = true then valO m may d ((c + i) :: r) m 0 else [])
theorem foK_fold {g : Nat → OS → OS} {E : Nat → List (List Nat)} {leaf : List Nat → OS → OS} (h : ∀ c st, g c st = (E c).foldl (fun st p => leaf p st) st) : ∀ k c st, foK g k c st = ((List.range k).flatMap (fun i => E (c + i))).foldl (fun st p => leaf p st) st
  | 0, _, _ => rfl
  | k + 1, c, st => by
    rw [foK, foK_fold h k (c + 1), h, List.range_succ_eq_map, List.flatMap_cons, List.foldl_append, Nat.add_zero, List.flatMap_map]
    congr 2
    funext i
    show E (c + 1 + i) = E (c + (i + 1))
    rw [show c + 1 + i = c + (i + 1) by omega]
theorem foC_fold {m : Nat} {may : List Nat → Nat → Bool} {leaf : List Nat → OS → OS} : ∀ d r k c st, foC m may leaf d r k c st = (valO m may d r k c).foldl (fun st p => leaf p st) st
  | 0, r, k, c, st => by
    rw [foC, foK_fold (E := fun c => if may r c = true then [c :: r] else []) (leaf := leaf)]
    · congr 1
      rw [valO]
      induction List.range k with
      | nil => rfl
      | cons i l ih =>
        rw [List.flatMap_cons, ih, List.filter_cons]
        by_cases h : may r (c + i) = true
        · rw [if_pos h, if_pos h]; rfl
        · rw [if_neg h, if_neg h]; rfl
    · intro c st
      by_cases h : may r c = true
      · rw [if_pos h, if_pos h]; rfl
      · rw [if_neg h, if_neg h]; rfl
  | d + 1, r, k, c, st => by
    rw [foC, foK_fold (E := fun c => if may r c = true then valO m may d (c :: r) m 0 else []) (leaf := leaf)]
    · rfl
    · intro c st
      by_cases h : may r c = true
      · rw [if_pos h, if_pos h, foC_fold d]
      · rw [if_neg h, if_neg h]; rfl
theorem okL_low {may : List Nat → Nat → Bool} {n : Nat} : ∀ {r : List Nat}, r.length ≤ n → okL may n r = true
  | [], _ => rfl
  | c :: r, h => by
    rw [List.length_cons] at h
    rw [okL, if_pos (by omega)]
theorem okL_step {may : List Nat → Nat → Bool} {n : Nat} {r : List Nat} (h : r.length = n) {c : Nat} : okL may n (c :: r) = may r c := by rw [okL, if_neg (by omega), okL_low (by omega), Bool.and_true]
theorem allO_suf {m : Nat} : ∀ {d r k c p}, p ∈ allO m d r k c → ∃ q, p = q ++ r ∧ q.length = d + 1
  | 0, r, k, c, p, h => by
    obtain ⟨i, -, rfl⟩ := List.mem_map.mp h
    exact ⟨[c + i], rfl, rfl⟩
  | d + 1, r, k, c, p, h => by
    obtain ⟨i, -, h⟩ := List.mem_flatMap.mp h
    obtain ⟨q, e, hq⟩ := allO_suf h
    exact ⟨q ++ [c + i], by rw [e, List.append_assoc]; rfl, by rw [List.length_append, hq]; rfl⟩
theorem okL_suf {may : List Nat → Nat → Bool} {c : Nat} {r : List Nat} : ∀ q : List Nat, okL may r.length (q ++ (c :: r)) = (okL may (r.length + 1) (q ++ (c :: r)) && may r c)
  | [] => by
    show okL may r.length (c :: r) = (okL may (r.length + 1) (c :: r) && may r c)
    rw [okL_step rfl, okL_low (by rw [List.length_cons]; exact Nat.le_refl _), Bool.true_and]
  | x :: q => by
    show okL may r.length (x :: (q ++ (c :: r))) = (okL may (r.length + 1) (x :: (q ++ (c :: r))) && may r c)
    have hl : (q ++ (c :: r)).length = q.length + (r.length + 1) := by rw [List.length_append, List.length_cons]
    rw [okL, okL, if_neg (by omega), if_neg (by omega), okL_suf q, Bool.and_assoc]
theorem valO_filter {m : Nat} {may : List Nat → Nat → Bool} : ∀ d r k c, valO m may d r k c = (allO m d r k c).filter (okL may r.length)
  | 0, r, k, c => by
    rw [valO, allO, List.filter_map]
    congr 1
    refine List.filter_congr (fun i _ => ?_)
    show may r (c + i) = okL may r.length ((c + i) :: r)
    rw [okL_step rfl]
  | d + 1, r, k, c => by
    rw [valO, allO, List.filter_flatMap]
    congr 1
    funext i
    by_cases h : may r (c + i) = true
    · rw [if_pos h, valO_filter d]
      refine List.filter_congr (fun p hp => ?_)
      obtain ⟨q, rfl, -⟩ := allO_suf hp
      rw [okL_suf q, h, Bool.and_true, List.length_cons]
    · rw [if_neg h]
      refine (List.filter_eq_nil_iff.mpr (fun p hp => ?_)).symm
      obtain ⟨q, rfl, -⟩ := allO_suf hp
      rw [okL_suf q, Bool.and_eq_true]
      exact fun z => h z.2
