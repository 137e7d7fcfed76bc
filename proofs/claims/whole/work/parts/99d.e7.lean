def mk (r : List Nat) : Nat := r.foldr (fun x s => s ||| 2 ^ x) 0
theorem mk_c (x : Nat) (r : List Nat) : mk (x :: r) = mk r ||| 2 ^ x := rfl
theorem mk_bit (y : Nat) : ∀ r : List Nat, (mk r).testBit y = true ↔ y ∈ r
  | [] => by
    show (0 : Nat).testBit y = true ↔ _
    rw [Nat.zero_testBit]
    exact ⟨fun h => absurd h (by decide), fun h => absurd h List.not_mem_nil⟩
  | x :: r => by
    rw [mk_c, hb_or2, mk_bit y r, List.mem_cons]
    exact ⟨fun h => h.elim Or.inr Or.inl, fun h => h.elim Or.inr Or.inl⟩
theorem mk_lt {z : Nat} (hz : z ≤ 7) : ∀ r : List Nat, (∀ x ∈ r, x < z) → mk r < 128
  | [], _ => by show 0 < 128; decide
  | x :: r, h => (hb_or (mk r) (mk_lt hz r (fun y hy => h y (List.mem_cons_of_mem _ hy))) x (by have := h x List.mem_cons_self; omega)).2
/-- may c come behind the order r? as the class looks at it -/
def mayC (z : Nat) (c : Nat → Int32) (a : Nat → Int32) (r : List Nat) (x : Nat) : Bool := match r with
  | [] => true
  | l :: _ => decide (mfP (fun i => mtI c i z) a (nI (mk r)) (nI l) (nI x))
def mayR (P : Nat → Nat → Bool) (ch : Nat → Int32) (r : List Nat) (x : Nat) : Bool := msF P ch (tf (x :: r)) r.length
theorem tf_app (q r : List Nat) {i : Nat} (h : i < r.length) : tf (q ++ r) i = tf r i := by
  induction q with
  | nil => rfl
  | cons x q ih =>
    show tf (x :: (q ++ r)) i = _
    rw [tf_o (by rw [List.length_append]; omega), ih]
theorem RSt_congr {P : Nat → Nat → Bool} {ch : Nat → Int32} {t t' : Nat → Nat} {D : Nat} (h : ∀ i, i ≤ D → t i = t' i) : RSt P ch t D ↔ RSt P ch t' D := by
  unfold RSt
  rw [h D (Nat.le_refl _)]
  refine and_congr ⟨fun g k hk => by rw [← h k (by omega)]; exact g k hk, fun g k hk => by rw [h k (by omega)]; exact g k hk⟩ (or_congr Iff.rfl ?_)
  rw [h (D - 1) (by omega)]
  refine and_congr Iff.rfl (or_congr Iff.rfl (or_congr Iff.rfl ⟨fun g k hk => by rw [← h k (by omega)]; exact g k hk, fun g k hk => by rw [h k (by omega)]; exact g k hk⟩))
theorem okR {P : Nat → Nat → Bool} {ch : Nat → Int32} : ∀ p : List Nat, okL (mayR P ch) 0 p = true ↔ ∀ D, D < p.length → RSt P ch (tf p) D
  | [] => ⟨fun _ D h => absurd h (Nat.not_lt_zero D), fun _ => rfl⟩
  | x :: r => by
    rw [okL, if_neg (Nat.not_lt_zero _), Bool.and_eq_true, okR r]
    unfold mayR
    rw [ms_iff]
    constructor
    · rintro ⟨a, b⟩ D hD
      rw [List.length_cons] at hD
      by_cases e : D = r.length
      · rw [e]; exact a
      · exact (RSt_congr (fun i hi => tf_o (by omega))).mpr (b D (by omega))
    · intro h
      exact ⟨h r.length (by rw [List.length_cons]; omega), fun D hD => (RSt_congr (fun i hi => tf_o (by omega))).mp (h D (by rw [List.length_cons]; omega))⟩
theorem mem_tf {r : List Nat} {y : Nat} : y ∈ r ↔ ∃ k, k < r.length ∧ tf r k = y := by
  constructor
  · intro h
    obtain ⟨k, hk, e⟩ := List.getElem_of_mem (List.mem_reverse.mpr h)
    refine ⟨k, by rw [List.length_reverse] at hk; exact hk, ?_⟩
    unfold tf
    rw [List.getElem?_eq_getElem hk, e]; rfl
  · rintro ⟨k, hk, e⟩
    have hk' : k < r.reverse.length := by rw [List.length_reverse]; exact hk
    unfold tf at e
    rw [List.getElem?_eq_getElem hk'] at e
    have e : r.reverse[k] = y := e
    rw [← e]
    exact List.mem_reverse.mp (List.getElem_mem hk')
theorem CSt_of {z : Nat} {c a : Nat → Int32} {ap : Nat → Nat → Bool} (hz : z ≤ 7) (ha : APR z a ap) {l x : Nat} {r : List Nat} (hr : ∀ y ∈ (x :: l :: r), y < z) : mayC z c a (l :: r) x = true ↔ CSt z c ap (tf (x :: l :: r)) r.length := by
  have hx : x < z := hr x List.mem_cons_self
  have hl : l < z := hr l (List.mem_cons_of_mem _ List.mem_cons_self)
  have hlr : ∀ y ∈ (l :: r), y < z := fun y hy => hr y (List.mem_cons_of_mem _ hy)
  have e1 : tf (x :: l :: r) (r.length + 1) = x := tf_l x (l :: r)
  have e2 : tf (x :: l :: r) r.length = l := by rw [tf_o (by rw [List.length_cons]; omega), tf_l]
  have e3 : ∀ k, k < r.length + 1 → tf (x :: l :: r) k = tf (l :: r) k := fun k hk => tf_o (by rw [List.length_cons]; exact hk)
  unfold mayC
  rw [decide_eq_true_iff, fol_iff hz ha (mk_lt hz _ hlr) hl hx ((mk_bit l _).mpr List.mem_cons_self) (fun y hy => hlr y ((mk_bit y _).mp hy))]
  unfold Fol CSt
  rw [e1, e2]
  have hin : ∀ y, (mk (l :: r)).testBit y = true ↔ ∃ k, k ≤ r.length ∧ tf (x :: l :: r) k = y := fun y => by
    rw [mk_bit, mem_tf]
    constructor
    · rintro ⟨k, hk, e⟩
      rw [List.length_cons] at hk
      exact ⟨k, by omega, by rw [e3 k hk]; exact e⟩
    · rintro ⟨k, hk, e⟩
      exact ⟨k, by rw [List.length_cons]; omega, by rw [← e3 k (by omega)]; exact e⟩
  refine and_congr ?_ (and_congr Iff.rfl (or_congr ?_ Iff.rfl))
  · constructor
    · intro h k hk e
      have := (hin x).mpr ⟨k, hk, e⟩
      rw [h] at this; exact absurd this (by decide)
    · intro h
      cases hb : (mk (l :: r)).testBit x
      · rfl
      · obtain ⟨k, hk, e⟩ := (hin x).mp hb
        exact absurd e (h k hk)
  · exact ⟨fun h y hy hm => (hin y).mp (h y hy hm), fun h y hy hm => (hin y).mpr (h y hy hm)⟩
theorem CSt_congr {z : Nat} {c : Nat → Int32} {ap : Nat → Nat → Bool} {t t' : Nat → Nat} {D : Nat} (h : ∀ i, i ≤ D + 1 → t i = t' i) : CSt z c ap t D ↔ CSt z c ap t' D := by
  unfold CSt
  rw [h D (by omega), h (D + 1) (Nat.le_refl _)]
  refine and_congr ⟨fun g k hk => by rw [← h k (by omega)]; exact g k hk, fun g k hk => by rw [h k (by omega)]; exact g k hk⟩ (and_congr Iff.rfl (or_congr ?_ Iff.rfl))
  constructor
  · intro g y hy hm
    obtain ⟨k, hk, e⟩ := g y hy hm
    exact ⟨k, hk, by rw [← h k (by omega)]; exact e⟩
  · intro g y hy hm
    obtain ⟨k, hk, e⟩ := g y hy hm
    exact ⟨k, hk, by rw [h k (by omega)]; exact e⟩
theorem okC {z : Nat} {c a : Nat → Int32} {ap : Nat → Nat → Bool} (hz : z ≤ 7) (ha : APR z a ap) : ∀ p : List Nat, (∀ y ∈ p, y < z) → (okL (mayC z c a) 0 p = true ↔ ∀ D, D + 1 < p.length → CSt z c ap (tf p) D)
  | [], _ => ⟨fun _ D h => absurd h (Nat.not_lt_zero _), fun _ => rfl⟩
  | [x], _ => ⟨fun _ D h => by simp at h, fun _ => rfl⟩
  | x :: l :: r, hp => by
    rw [okL, if_neg (Nat.not_lt_zero _), Bool.and_eq_true, okC hz ha (l :: r) (fun y hy => hp y (List.mem_cons_of_mem _ hy)), CSt_of hz ha hp]
    constructor
    · rintro ⟨g1, g2⟩ D hD
      rw [List.length_cons, List.length_cons] at hD
      by_cases e : D = r.length
      · rw [e]; exact g1
      · exact (CSt_congr (fun i hi => tf_o (by rw [List.length_cons]; omega))).mpr (g2 D (by rw [List.length_cons]; omega))
    · intro h
      exact ⟨h r.length (by rw [List.length_cons, List.length_cons]; omega), fun D hD => by
        rw [List.length_cons] at hD
        exact (CSt_congr (fun i hi => tf_o (by rw [List.length_cons]; omega))).mp (h D (by rw [List.length_cons, List.length_cons]; omega))⟩
theorem allO_lt {m : Nat} : ∀ {d r k c p}, c + k ≤ m → (∀ y ∈ r, y < m) → p ∈ allO m d r k c → ∀ y ∈ p, y < m
  | 0, r, k, c, p, h, hr, hp, y, hy => by
    obtain ⟨i, hi, rfl⟩ := List.mem_map.mp hp
    have hi := List.mem_range.mp hi
    rcases List.mem_cons.mp hy with e | e
    · omega
    · exact hr y e
  | d + 1, r, k, c, p, h, hr, hp, y, hy => by
    obtain ⟨i, hi, hp⟩ := List.mem_flatMap.mp hp
    have hi := List.mem_range.mp hi
    refine allO_lt (by omega) (fun x hx => ?_) hp y hy
    rcases List.mem_cons.mp hx with e | e
    · omega
    · exact hr x e
/-- the orders that the reference finds valid are those of the class -/
theorem valO_eq {m : Nat} {c a : Nat → Int32} {ap : Nat → Nat → Bool} (hm : 0 < m) (hz : m ≤ 7) (hs : ∀ x y, ap x y = ap y x) (ha : APR m a ap) : valO m (mayR ap c) (m - 1) [] m 0 = valO m (mayC m c a) (m - 1) [] m 0 := by
  rw [valO_filter, valO_filter]
  refine List.filter_congr (fun p hp => ?_)
  have hlt := allO_lt (by omega) (fun y hy => absurd hy List.not_mem_nil) hp
  obtain ⟨q, e, hq⟩ := allO_suf hp
  have hlen : p.length = m := by rw [e, List.append_nil, hq]; omega
  have ht : ∀ i, i < m → tf p i < m := fun i hi => tf_lt hlt (by omega)
  have h1 := okR (P := ap) (ch := c) p
  have h2 := okC (c := c) hz ha p hlt
  rw [hlen] at h1 h2
  have h3 := valid_iff (c := c) hs ht
  rw [Bool.eq_iff_iff]
  exact (h1.trans h3).trans h2.symm
