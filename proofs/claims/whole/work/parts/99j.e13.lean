/-- a byte of the class (signed) and of the reference (0 to 255) -/
def BY (T f : Nat → Int32) (n : Nat) : Prop := ∀ i, i < n → (T i = f i ∧ 0 ≤ f i ∧ f i ≤ 127) ∨ (T i < 0 ∧ 128 ≤ f i)
theorem BY.eq {T f : Nat → Int32} {n : Nat} (h : BY T f n) {i : Nat} (hi : i < n) {c : Int32} (h0 : 0 ≤ c) (h1 : c ≤ 127) : T i = c ↔ f i = c := by
  rcases h i hi with ⟨e, -, -⟩ | ⟨e1, e2⟩
  · rw [e]
  · rw [← Int32.toInt_inj, ← Int32.toInt_inj]
    simp only [Int32.le_iff_toInt_le, Int32.lt_iff_toInt_lt] at *
    have z : (0 : Int32).toInt = 0 := rfl
    have z1 : (127 : Int32).toInt = 127 := rfl
    have z2 : (128 : Int32).toInt = 128 := rfl
    constructor
    · intro q; omega
    · intro q; omega
theorem BY.rg {T f : Nat → Int32} {n : Nat} (h : BY T f n) {i : Nat} (hi : i < n) {a b : Int32} (h0 : 0 ≤ a) (h1 : b ≤ 127) : (a ≤ T i ∧ T i ≤ b) ↔ (a ≤ f i ∧ f i ≤ b) := by
  rcases h i hi with ⟨e, -, -⟩ | ⟨e1, e2⟩
  · rw [e]
  · simp only [Int32.le_iff_toInt_le, Int32.lt_iff_toInt_lt] at *
    have z : (0 : Int32).toInt = 0 := rfl
    have z1 : (127 : Int32).toInt = 127 := rfl
    have z2 : (128 : Int32).toInt = 128 := rfl
    constructor
    · intro q; omega
    · intro q; omega
theorem BY.val {T f : Nat → Int32} {n : Nat} (h : BY T f n) {i : Nat} (hi : i < n) (h0 : 48 ≤ f i ∧ f i ≤ 57) : T i = f i := by
  rcases h i hi with ⟨e, -, -⟩ | ⟨e1, e2⟩
  · exact e
  · simp only [Int32.le_iff_toInt_le, Int32.lt_iff_toInt_lt] at *
    have z1 : (57 : Int32).toInt = 57 := rfl
    have z2 : (128 : Int32).toInt = 128 := rfl
    omega
theorem sk_eq {T f : Nat → Int32} {n : Nat} (h : BY T f n) : ∀ d a, a + d ≤ n → skF T d a = skp f d a
  | 0, _, _ => rfl
  | d + 1, a, hd => by
    rw [skF, skp]
    by_cases c : f a = 32
    · rw [if_pos c, if_pos ((h.eq (by omega) (by decide) (by decide)).mpr c), sk_eq h d (a + 1) (by omega)]
    · rw [if_neg c, if_neg (fun z => c ((h.eq (by omega) (by decide) (by decide)).mp z))]
theorem skS_eq {T f : Nat → Int32} {n : Nat} (h : BY T f n) {s : Nat × Int32} (hs : s.1 ≤ n) : skS T n s = (sp f n s.1, s.2) := by
  unfold skS sp
  rw [sk_eq h _ _ (by omega)]
theorem wd_eq {T f : Nat → Int32} {n : Nat} (h : BY T f n) : ∀ d a, a + d ≤ n → wdF T d a = rsm f d a
  | 0, _, _ => rfl
  | d + 1, a, hd => by
    rw [wdF, rsm]
    have e := h.rg (i := a) (by omega) (a := 97) (b := 122) (by decide) (by decide)
    by_cases c : 97 ≤ f a ∧ f a ≤ 122
    · rw [if_pos c, if_pos (e.mpr c), wd_eq h d (a + 1) (by omega)]
    · rw [if_neg c, if_neg (fun z => c (e.mp z))]
theorem dg_eq {T f : Nat → Int32} {n : Nat} (h : BY T f n) (a : Nat) : dgP T n a ↔ (a < n ∧ 48 ≤ f a ∧ f a ≤ 57) := by
  constructor
  · rintro ⟨h1, h2⟩; exact ⟨h1, (h.rg h1 (a := 48) (b := 57) (by decide) (by decide)).mp h2⟩
  · rintro ⟨h1, h2⟩; exact ⟨h1, (h.rg h1 (a := 48) (b := 57) (by decide) (by decide)).mpr h2⟩
theorem dn_stop {T : Nat → Int32} {n a : Nat} {v : Int32} (h : ¬ dgP T n a) : ∀ d, dnF T n d a v = (a, v)
  | 0 => rfl
  | d + 1 => by rw [dnF, if_neg h]
theorem dgL_eq {T f : Nat → Int32} {n : Nat} (h : BY T f n) : ∀ m k v c, k + m = n → c ≤ 6 → dgL f m k v c = if dgP T n (dnF T n (6 - c) k v).1 then ((dnF T n (6 - c) k v).2, (dnF T n (6 - c) k v).1, nI (dnF T n (6 - c) k v).1) else ((dnF T n (6 - c) k v).2, (dnF T n (6 - c) k v).1, -1)
  | 0, k, v, c, hk, hc => by
    have hd : ¬ dgP T n k := fun z => by have := z.1; omega
    rw [dgL, dn_stop hd, if_neg hd]
  | m + 1, k, v, c, hk, hc => by
    rw [dgL]
    by_cases g : 48 ≤ f k ∧ f k ≤ 57
    · have hd : dgP T n k := (dg_eq h k).mpr ⟨by omega, g⟩
      rw [if_pos g]
      by_cases c6 : c = 6
      · have e : dnF T n (6 - c) k v = (k, v) := by rw [c6]; rfl
        rw [if_pos c6, e, if_pos hd]
      · obtain ⟨q, hq⟩ : ∃ q, 6 - c = q + 1 := ⟨5 - c, by omega⟩
        have e : dnF T n (6 - c) k v = dnF T n (6 - (c + 1)) (k + 1) (10 * v + f k - 48) := by
          rw [hq, dnF, if_pos hd, h.val (by omega) g, Int32.mul_comm, show q = 6 - (c + 1) by omega]
        rw [if_neg c6, dgL_eq h m (k + 1) _ (c + 1) (by omega) (by omega), e]
    · have hd : ¬ dgP T n k := fun z => g ((dg_eq h k).mp z).2
      rw [if_neg g, dn_stop hd, if_neg hd]
theorem nm_eq {T f : Nat → Int32} {n : Nat} (h : BY T f n) (hn : n ≤ 200) {s : Nat × Int32} (hs : s.1 ≤ n) (hb : s.2 = -1) (m : Int32) : nmS T n m s = ((dgF f n m (sp f n s.1)).2.1, (dgF f n m (sp f n s.1)).2.2) ∧ nmV T n s = (dgF f n m (sp f n s.1)).1 := by
  have hsp := sp_le (f := f) hs
  have e1 : (skS T n s).1 = sp f n s.1 := by rw [skS_eq h hs]
  have eR : nmR T n s = dnF T n 6 (sp f n s.1) 0 := by unfold nmR; rw [e1]
  unfold nmS nmV
  rw [if_pos hb, if_pos hb, eR, e1]
  generalize sp f n s.1 = a at hsp
  unfold dgF
  by_cases g : a = n ∨ ¬ (48 ≤ f a ∧ f a ≤ 57)
  · have hd : ¬ dgP T n a := fun z => by
      have z := (dg_eq h a).mp z
      rcases g with g | g
      · omega
      · exact g z.2
    rw [if_pos g, dn_stop hd, if_pos (Or.inl rfl)]
    exact ⟨rfl, rfl⟩
  · have ga : a < n := by
      rcases Nat.lt_or_ge a n with z | z
      · exact z
      · exact absurd (Or.inl (by omega)) g
    have gd : 48 ≤ f a ∧ f a ≤ 57 := Classical.not_not.mp (fun z => g (Or.inr z))
    have hd : dgP T n a := (dg_eq h a).mpr ⟨ga, gd⟩
    have hgt : a + 1 ≤ (dnF T n 6 a 0).1 ∧ (dnF T n 6 a 0).1 ≤ n := by
      rw [dnF, if_pos hd]
      have := dnF_le T n 5 (a + 1) (0 * 10 + T a - 48) (by omega)
      omega
    rw [if_neg g, dgL_eq h (n - a) a 0 0 (by omega) (by decide)]
    show _ ∧ (dnF T n 6 a 0).2 = (dgE m a (if dgP T n (dnF T n 6 a 0).1 then ((dnF T n 6 a 0).2, (dnF T n 6 a 0).1, nI (dnF T n 6 a 0).1) else ((dnF T n 6 a 0).2, (dnF T n 6 a 0).1, -1))).1
    show (if (dnF T n 6 a 0).1 = a ∨ dgP T n (dnF T n 6 a 0).1 then _ else _) = ((dgE m a (if dgP T n (dnF T n 6 a 0).1 then ((dnF T n 6 a 0).2, (dnF T n 6 a 0).1, nI (dnF T n 6 a 0).1) else ((dnF T n 6 a 0).2, (dnF T n 6 a 0).1, -1))).2.1, (dgE m a (if dgP T n (dnF T n 6 a 0).1 then ((dnF T n 6 a 0).2, (dnF T n 6 a 0).1, nI (dnF T n 6 a 0).1) else ((dnF T n 6 a 0).2, (dnF T n 6 a 0).1, -1))).2.2) ∧ _
    generalize dnF T n 6 a 0 = r at hgt
    by_cases q : dgP T n r.1
    · have nb : ¬ nI r.1 = -1 := nI_nm1 (by omega)
      have eE : dgE m a (r.2, r.1, nI r.1) = (r.2, r.1, nI r.1) := if_neg (fun z => nb z.1)
      rw [if_pos (Or.inr q), if_pos q, eE]
      exact ⟨rfl, rfl⟩
    · rw [if_neg (fun z => z.elim (fun z => by omega) q), if_neg q]
      by_cases u : m < r.2
      · have eE : dgE m a (r.2, r.1, -1) = (r.2, r.1, nI a) := if_pos ⟨rfl, Int32.not_le.mpr u⟩
        rw [if_pos u, eE]
        exact ⟨rfl, rfl⟩
      · have eE : dgE m a (r.2, r.1, -1) = (r.2, r.1, -1) := if_neg (fun z => z.2 (Int32.not_lt.mp u))
        rw [if_neg u, eE]
        exact ⟨rfl, rfl⟩
