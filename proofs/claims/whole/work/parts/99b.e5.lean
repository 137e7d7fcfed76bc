theorem php : ∀ (z : Nat) (l : List Nat), l.Nodup → (∀ x ∈ l, x < z) → l.length ≤ z
  | 0, l, _, h => by
    cases l with
    | nil => exact Nat.le_refl _
    | cons x l => exact absurd (h x List.mem_cons_self) (Nat.not_lt_zero x)
  | z + 1, l, hn, h => by
    by_cases hz : z ∈ l
    · have := php z (l.erase z) (hn.erase z) (fun x hx => by
        have hm := (List.Nodup.mem_erase_iff hn).mp hx
        have := h x hm.2
        omega)
      rw [List.length_erase_of_mem hz] at this
      omega
    · have := php z l hn (fun x hx => by
        have := h x hx
        have : x ≠ z := fun e => hz (by rw [← e]; exact hx)
        omega)
      omega
theorem onto {z : Nat} {t : Nat → Nat} (h1 : ∀ i, i < z → t i < z) (h2 : ∀ i j, i < j → j < z → t i ≠ t j) {y : Nat} (hy : y < z) : ∃ i, i < z ∧ t i = y := by
  have hn : ((List.range z).map t).Nodup := by
    unfold List.Nodup
    rw [List.pairwise_map]
    exact List.Pairwise.imp_of_mem (fun {a b} ha hb hab => h2 a b hab (List.mem_range.mp hb)) List.pairwise_lt_range
  have hm : ∀ x ∈ (List.range z).map t, x < z := fun x hx => by
    obtain ⟨i, hi, rfl⟩ := List.mem_map.mp hx
    exact h1 i (List.mem_range.mp hi)
  by_cases c : y ∈ (List.range z).map t
  · obtain ⟨i, hi, e⟩ := List.mem_map.mp c
    exact ⟨i, List.mem_range.mp hi, e⟩
  · have := php z (y :: (List.range z).map t) (List.nodup_cons.mpr ⟨c, hn⟩) (fun x hx => by
      rcases List.mem_cons.mp hx with e | e
      · rw [e]; exact hy
      · exact hm x e)
    rw [List.length_cons, List.length_map, List.length_range] at this
    omega
theorem anyF_false {p : Nat → Bool} : ∀ m k, anyF p m k = false ↔ ∀ i, k ≤ i → i < k + m → p i = false
  | 0, k => ⟨fun _ i h1 h2 => by omega, fun _ => rfl⟩
  | m + 1, k => by
    rw [anyF, Bool.or_eq_false_iff, anyF_false m (k + 1)]
    constructor
    · rintro ⟨a, b⟩ i h1 h2
      by_cases e : i = k
      · rw [e]; exact a
      · exact b i (by omega) (by omega)
    · intro h
      exact ⟨h k (Nat.le_refl _) (by omega), fun i h1 h2 => h i (by omega) (by omega)⟩
/-- each place of an order, as the reference looks at it -/
def RSt (P : Nat → Nat → Bool) (ch : Nat → Int32) (t : Nat → Nat) (D : Nat) : Prop := (∀ k, k < D → t k ≠ t D) ∧ (D = 0 ∨ (P (t D) (t (D - 1)) = false ∧ (ch (t D) = 0 ∨ ch (t D) = ch (t (D - 1)) ∨ ∀ k, k < D - 1 → ch (t k) ≠ ch (t D))))
theorem ms_iff {P : Nat → Nat → Bool} {ch : Nat → Int32} {t : Nat → Nat} {D : Nat} : msF P ch t D = true ↔ RSt P ch t D := by
  unfold msF RSt
  rw [Bool.and_eq_true, Bool.not_eq_true', anyF_false]
  refine and_congr ⟨fun h k hk => of_decide_eq_false (h k (Nat.zero_le _) (by omega)), fun h i _ hi => decide_eq_false (h i (by omega))⟩ ?_
  by_cases d : D = 0
  · rw [if_pos d]; exact ⟨fun _ => Or.inl d, fun _ => rfl⟩
  · rw [if_neg d, Bool.and_eq_true, Bool.not_eq_true', Bool.or_eq_true, decide_eq_true_iff, Bool.not_eq_true', anyF_false]
    constructor
    · rintro ⟨a, b⟩
      refine Or.inr ⟨a, ?_⟩
      rcases b with (b | b) | b
      · exact Or.inl b
      · exact Or.inr (Or.inl b)
      · exact Or.inr (Or.inr (fun k hk => of_decide_eq_false (b k (Nat.zero_le _) (by omega))))
    · rintro (h | ⟨a, b⟩)
      · exact absurd h d
      · refine ⟨a, ?_⟩
        rcases b with b | b | b
        · exact Or.inl (Or.inl b)
        · exact Or.inl (Or.inr b)
        · exact Or.inr (fun i _ hi => decide_eq_false (b i (by omega)))
/-- each place of an order, as the class looks at it -/
def CSt (z : Nat) (c : Nat → Int32) (ap : Nat → Nat → Bool) (t : Nat → Nat) (D : Nat) : Prop := (∀ k, k ≤ D → t k ≠ t (D + 1)) ∧ ap (t D) (t (D + 1)) = false ∧ ((∀ y, y < z → (y = t D ∨ (¬ c (t D) = 0 ∧ c (t D) = c y)) → ∃ k, k ≤ D ∧ t k = y) ∨ (t (D + 1) = t D ∨ (¬ c (t D) = 0 ∧ c (t D) = c (t (D + 1)))))
theorem valid_iff {z : Nat} {c : Nat → Int32} {ap : Nat → Nat → Bool} (hs : ∀ x y, ap x y = ap y x) {t : Nat → Nat} (ht : ∀ i, i < z → t i < z) : (∀ D, D < z → RSt ap c t D) ↔ (∀ D, D + 1 < z → CSt z c ap t D) := by
  constructor
  · intro h D hD
    have inj : ∀ i j, i < j → j < z → t i ≠ t j := fun i j h1 h2 => (h j h2).1 i h1
    obtain ⟨a1, a2⟩ := h (D + 1) hD
    refine ⟨fun k hk => a1 k (by omega), ?_, ?_⟩
    · rcases a2 with a2 | a2
      · omega
      · rw [hs]; exact a2.1
    · by_cases m : t (D + 1) = t D ∨ (¬ c (t D) = 0 ∧ c (t D) = c (t (D + 1)))
      · exact Or.inr m
      · refine Or.inl (fun y hy hm => ?_)
        by_cases g : ∃ k, k ≤ D ∧ t k = y
        · exact g
        · obtain ⟨E, hE, eE⟩ := onto ht inj hy
          have hED : D < E := by
            rcases Nat.lt_or_ge D E with z1 | z1
            · exact z1
            · exact absurd ⟨E, z1, eE⟩ g
          have hc : ¬ c (t D) = 0 ∧ c (t D) = c y := hm.resolve_left (fun e => g ⟨D, Nat.le_refl _, e.symm⟩)
          -- the first place behind D + 1 with this chapter
          have first : ∀ n e, D + 1 < e → e ≤ D + 1 + n → e < z → c (t e) = c (t D) → ∃ e', D + 1 < e' ∧ e' < z ∧ c (t e') = c (t D) ∧ ∀ k, D < k → k < e' → ¬ c (t k) = c (t D) := by
            intro n
            induction n with
            | zero => intro e h1 h2; omega
            | succ n ih =>
              intro e h1 h2 h3 h4
              by_cases q : ∃ k, D < k ∧ k < e ∧ c (t k) = c (t D)
              · obtain ⟨k, k1, k2, k3⟩ := q
                by_cases e9 : k = D + 1
                · rw [e9] at k3
                  exact absurd (Or.inr ⟨hc.1, k3.symm⟩) m
                · exact ih k (by omega) (by omega) (by omega) k3
              · exact ⟨e, h1, h3, h4, fun k k1 k2 k3 => q ⟨k, k1, k2, k3⟩⟩
          have hE1 : D + 1 < E := by
            rcases Nat.lt_or_ge (D + 1) E with z1 | z1
            · exact z1
            · have : E = D + 1 := by omega
              rw [this] at eE
              exact absurd (Or.inr ⟨hc.1, by rw [eE]; exact hc.2⟩) m
          obtain ⟨F, f1, f2, f3, f4⟩ := first E E hE1 (by omega) hE (by rw [eE]; exact hc.2.symm)
          obtain ⟨-, b2⟩ := h F f2
          rcases b2 with b2 | ⟨-, b2⟩
          · omega
          · rcases b2 with b2 | b2 | b2
            · rw [f3] at b2; exact absurd b2 hc.1
            · exact absurd (b2.symm.trans f3) (f4 (F - 1) (by omega) (by omega))
            · exact absurd f3.symm (b2 D (by omega))
  · intro h D hD
    have inj : ∀ i j, i < j → j < z → t i ≠ t j := fun i j h1 h2 => by
      have := (h (j - 1) (by omega)).1 i (by omega)
      rw [show j - 1 + 1 = j by omega] at this
      exact this
    refine ⟨fun k hk => inj k D hk hD, ?_⟩
    by_cases d0 : D = 0
    · exact Or.inl d0
    · obtain ⟨-, a2, -⟩ := h (D - 1) (by omega)
      rw [show D - 1 + 1 = D by omega] at a2
      refine Or.inr ⟨by rw [hs]; exact a2, ?_⟩
      by_cases c0 : c (t D) = 0
      · exact Or.inl c0
      · by_cases c1 : c (t D) = c (t (D - 1))
        · exact Or.inr (Or.inl c1)
        · refine Or.inr (Or.inr (fun k hk hck => ?_))
          -- the last place ahead of D with this chapter
          have last : ∀ n j, j < D - 1 → D - 1 ≤ j + n → c (t j) = c (t D) → ∃ j', j' < D - 1 ∧ c (t j') = c (t D) ∧ ∀ i, j' < i → i < D → ¬ c (t i) = c (t D) := by
            intro n
            induction n with
            | zero => intro j h1 h2; omega
            | succ n ih =>
              intro j h1 h2 h3
              by_cases q : ∃ i, j < i ∧ i < D ∧ c (t i) = c (t D)
              · obtain ⟨i, i1, i2, i3⟩ := q
                by_cases e9 : i = D - 1
                · rw [e9] at i3; exact absurd i3.symm c1
                · exact ih i (by omega) (by omega) i3
              · exact ⟨j, h1, h3, fun i i1 i2 i3 => q ⟨i, i1, i2, i3⟩⟩
          obtain ⟨j, j1, j2, j3⟩ := last D k hk (by omega) hck
          obtain ⟨-, -, b⟩ := h j (by omega)
          rcases b with b | b | b
          · obtain ⟨i, i1, i2⟩ := b (t D) (ht D hD) (Or.inr ⟨by rw [j2]; exact c0, j2⟩)
            exact inj i D (by omega) hD i2
          · exact inj j (j + 1) (by omega) (by omega) b.symm
          · exact j3 (j + 1) (by omega) (by omega) (b.2.symm.trans j2)
