def cst (H : Nat → Nat) (x y : Nat) : Nat := if H x ≤ H y then H y - H x else H x - H y
theorem sub_int {a b : Nat} (ha : a < 2 ^ 30) (hb : b < 2 ^ 30) : (nI a - nI b).toInt = (a : Int) - (b : Int) := by
  rw [Int32.toInt_sub, nI_toInt (by omega), nI_toInt (by omega)]
  exact Int.bmod_eq_of_le (by omega) (by omega)
theorem neg_int {x : Int32} (h : -1000000000 < x.toInt) (h2 : x.toInt < 1000000000) : (0 - x).toInt = - x.toInt := by
  rw [Int32.toInt_sub]
  have z : (0 : Int32).toInt = 0 := rfl
  rw [z, Int.zero_sub]
  exact Int.bmod_eq_of_le (by omega) (by omega)
theorem neg_is (x : Int32) : -x = 0 - x := by rw [Int32.sub_eq_add_neg, Int32.zero_add]
theorem nI_abs {a b : Nat} (ha : a < 100000) (hb : b < 100000) : abI (nI a - nI b) = nI (if a ≤ b then b - a else a - b) := by
  have e := sub_int (a := a) (b := b) (by omega) (by omega)
  have z : (0 : Int32).toInt = 0 := rfl
  unfold abI
  rw [← Int32.toInt_inj]
  by_cases h : (0 : Int32) ≤ nI a - nI b
  · rw [if_pos h, e]
    rw [Int32.le_iff_toInt_le, e, z] at h
    by_cases g : a ≤ b
    · rw [if_pos g, nI_toInt (by omega)]; omega
    · rw [if_neg g, nI_toInt (by omega)]; omega
  · rw [if_neg h, neg_int (by omega) (by omega), e]
    rw [Int32.le_iff_toInt_le, e, z] at h
    rw [if_pos (by omega), nI_toInt (by omega)]; omega
theorem cst_sym (H : Nat → Nat) (x y : Nat) : cst H x y = cst H y x := by
  unfold cst
  split <;> split <;> omega
/-- the step of an order, the last work first -/
def costN (H : Nat → Nat) : List Nat → Nat
  | [] => 0
  | [_] => 0
  | x :: l :: r => costN H (l :: r) + cst H l x
theorem costN_le {H : Nat → Nat} (hH : ∀ i, H i ≤ 500) : ∀ p : List Nat, costN H p ≤ 500 * p.length
  | [] => Nat.zero_le _
  | [_] => Nat.zero_le _
  | x :: l :: r => by
    have := costN_le hH (l :: r)
    have h1 : cst H l x ≤ 500 := by
      unfold cst
      have := hH l
      have := hH x
      split <;> omega
    rw [costN, List.length_cons]
    omega
theorem sgF_congr {h : Nat → Int32} {t t' : Nat → Nat} : ∀ k, (∀ i, i < k → t i = t' i) → sgF h t k = sgF h t' k
  | 0, _ => rfl
  | k + 1, g => by
    rw [sgF, sgF, sgF_congr k (fun i hi => g i (by omega)), g k (by omega)]
    by_cases e : k = 0
    · rw [if_pos e, if_pos e]
    · rw [if_neg e, if_neg e, g (k - 1) (by omega)]
theorem sg_cost {h : Nat → Int32} {H : Nat → Nat} {m : Nat} (hH : ∀ i, H i ≤ 500) (hh : ∀ i, i < m → h i = nI (H i)) : ∀ p : List Nat, p.length ≤ 8 → (∀ y ∈ p, y < m) → sgF h (tf p) p.length = nI (costN H p)
  | [], _, _ => rfl
  | [_], _, _ => rfl
  | x :: l :: r, hp, hy => by
    have ih := sg_cost hH hh (l :: r) (by rw [List.length_cons] at hp; omega) (fun y h9 => hy y (List.mem_cons_of_mem _ h9))
    have e1 : tf (x :: l :: r) (l :: r).length = x := tf_l x (l :: r)
    have e2 : tf (x :: l :: r) ((l :: r).length - 1) = l := by
      rw [List.length_cons, Nat.add_sub_cancel, tf_o (by rw [List.length_cons]; omega), tf_l]
    have hx := hH x
    have hl := hH l
    show sgF h (tf (x :: l :: r)) ((l :: r).length + 1) = _
    rw [sgF, if_neg (by rw [List.length_cons]; omega), sgF_congr (t' := tf (l :: r)) _ (fun i hi => tf_o hi), ih, e1, e2, hh x (hy x List.mem_cons_self), hh l (hy l (List.mem_cons_of_mem _ List.mem_cons_self)), neg_is]
    have := nI_abs (a := H x) (b := H l) (by omega) (by omega)
    unfold abI at this
    rw [this, nI_add, costN, cst_sym]; rfl
def enO (o : Option (Nat × List Nat)) : OS := match o with
  | none => (-1, [])
  | some x => (nI x.1, x.2.reverse)
def updO (H : Nat → Nat) (o : Option (Nat × List Nat)) (p : List Nat) : Option (Nat × List Nat) := match o with
  | none => some (costN H p, p)
  | some x => if costN H p < x.1 then some (costN H p, p) else some x
def smO (o : Option (Nat × List Nat)) : Prop := ∀ x, o = some x → x.1 ≤ 4000
theorem lf_upd {h : Nat → Int32} {H : Nat → Nat} {m : Nat} (hH : ∀ i, H i ≤ 500) (hh : ∀ i, i < m → h i = nI (H i)) {p : List Nat} (hp : p.length = m ∧ ∀ y ∈ p, y < m) (hm : m ≤ 7) {o : Option (Nat × List Nat)} (ho : smO o) : lfO h m p (enO o) = enO (updO H o p) ∧ smO (updO H o p) := by
  have hc := costN_le hH p
  have hp1 := hp.1
  have hs := sg_cost hH hh p (by omega) hp.2
  rw [hp.1] at hs
  unfold lfO
  rw [hs]
  cases o with
  | none => exact ⟨if_pos (Or.inl rfl), fun x hx => by cases hx; show costN H p ≤ 4000; omega⟩
  | some x =>
    have hx := ho x rfl
    have n1 : ¬ nI x.1 = -1 := nI_nm1 (by omega)
    by_cases c : costN H p < x.1
    · have c' : nI (costN H p) < nI x.1 := (nI_ltI (by omega) (by omega)).mpr c
      have e : updO H (some x) p = some (costN H p, p) := if_pos c
      rw [e]
      exact ⟨if_pos (Or.inr c'), fun y hy => by cases hy; show costN H p ≤ 4000; omega⟩
    · have c' : ¬ nI (costN H p) < nI x.1 := fun z => c ((nI_ltI (by omega) (by omega)).mp z)
      have e : updO H (some x) p = some x := if_neg c
      rw [e]
      exact ⟨if_neg (fun z => z.elim n1 c'), ho⟩
theorem fold_upd {h : Nat → Int32} {H : Nat → Nat} {m : Nat} (hH : ∀ i, H i ≤ 500) (hh : ∀ i, i < m → h i = nI (H i)) (hm : m ≤ 7) : ∀ (L : List (List Nat)) (o : Option (Nat × List Nat)), (∀ p ∈ L, p.length = m ∧ ∀ y ∈ p, y < m) → smO o → L.foldl (fun st p => lfO h m p st) (enO o) = enO (L.foldl (updO H) o)
  | [], _, _, _ => rfl
  | p :: L, o, hL, ho => by
    obtain ⟨e1, e2⟩ := lf_upd hH hh (hL p List.mem_cons_self) hm ho
    rw [List.foldl_cons, List.foldl_cons, e1]
    exact fold_upd hH hh hm L _ (fun q hq => hL q (List.mem_cons_of_mem _ hq)) e2
/-- the earlier of two, but where the later is less -/
def mrg (a b : Option (Nat × List Nat)) : Option (Nat × List Nat) := match a, b with
  | none, b => b
  | some x, none => some x
  | some x, some y => if y.1 < x.1 then some y else some x
theorem fold_mrg {H : Nat → Nat} : ∀ (L : List (List Nat)) (o : Option (Nat × List Nat)), L.foldl (updO H) o = mrg o (L.foldl (updO H) none)
  | [], o => by cases o <;> rfl
  | p :: L, o => by
    rw [List.foldl_cons, List.foldl_cons, fold_mrg L (updO H o p), fold_mrg L (updO H none p)]
    generalize L.foldl (updO H) none = b
    cases o with
    | none => cases b <;> rfl
    | some x =>
      cases b with
      | none =>
        show mrg (if costN H p < x.1 then some (costN H p, p) else some x) none = mrg (some x) (some (costN H p, p))
        split
        · rename_i c; show some (costN H p, p) = if costN H p < x.1 then some (costN H p, p) else some x; rw [if_pos c]
        · rename_i c; show some x = if costN H p < x.1 then some (costN H p, p) else some x; rw [if_neg c]
      | some y =>
        show mrg (if costN H p < x.1 then some (costN H p, p) else some x) (some y) = mrg (some x) (if y.1 < costN H p then some y else some (costN H p, p))
        by_cases c1 : costN H p < x.1
        · rw [if_pos c1]
          by_cases c2 : y.1 < costN H p
          · rw [if_pos c2]
            show (if y.1 < costN H p then some y else some (costN H p, p)) = if y.1 < x.1 then some y else some x
            rw [if_pos c2, if_pos (by omega)]
          · rw [if_neg c2]
            show (if y.1 < costN H p then some y else some (costN H p, p)) = if costN H p < x.1 then some (costN H p, p) else some x
            rw [if_neg c2, if_pos c1]
        · rw [if_neg c1]
          by_cases c2 : y.1 < costN H p
          · rw [if_pos c2]
          · rw [if_neg c2]
            show (if y.1 < x.1 then some y else some x) = if costN H p < x.1 then some (costN H p, p) else some x
            rw [if_neg (by omega), if_neg c1]
