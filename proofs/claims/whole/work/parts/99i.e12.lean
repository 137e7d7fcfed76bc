theorem RSt_ch {P : Nat → Nat → Bool} {ch c : Nat → Int32} {t : Nat → Nat} {D m : Nat} (hD : D < m) (ht : ∀ i, i < m → t i < m) (h : ∀ i, i < m → ch i = c i) : RSt P ch t D ↔ RSt P c t D := by
  unfold RSt
  rw [h _ (ht D hD)]
  refine and_congr Iff.rfl (or_congr Iff.rfl (and_congr Iff.rfl (or_congr Iff.rfl ?_)))
  rw [h _ (ht (D - 1) (by omega))]
  refine or_congr Iff.rfl ⟨fun g k hk => by rw [← h _ (ht k (by omega))]; exact g k hk, fun g k hk => by rw [h _ (ht k (by omega))]; exact g k hk⟩
theorem valO_ch {m : Nat} {ch c : Nat → Int32} {P : Nat → Nat → Bool} (hm : 0 < m) (h : ∀ i, i < m → ch i = c i) : valO m (mayR P ch) (m - 1) [] m 0 = valO m (mayR P c) (m - 1) [] m 0 := by
  rw [valO_filter, valO_filter]
  refine List.filter_congr (fun p hp => ?_)
  have hlt := allO_lt (by omega) (fun y hy => absurd hy List.not_mem_nil) hp
  obtain ⟨q, e, hq⟩ := allO_suf hp
  have hlen : p.length = m := by rw [e, List.append_nil, hq]; omega
  have ht : ∀ i, i < m → tf p i < m := fun i hi => tf_lt hlt (by omega)
  rw [Bool.eq_iff_iff]
  show okL (mayR P ch) 0 p = true ↔ okL (mayR P c) 0 p = true
  rw [okR, okR, hlen]
  exact ⟨fun g D hD => (RSt_ch hD ht h).mp (g D hD), fun g D hD => (RSt_ch hD ht h).mpr (g D hD)⟩
theorem valO_mem {m : Nat} {may : List Nat → Nat → Bool} (hm : 0 < m) {p : List Nat} (hp : p ∈ valO m may (m - 1) [] m 0) : p.length = m ∧ ∀ y ∈ p, y < m := by
  rw [valO_filter] at hp
  have hp := (List.mem_filter.mp hp).1
  obtain ⟨q, e, hq⟩ := allO_suf hp
  exact ⟨by rw [e, List.append_nil, hq]; omega, allO_lt (by omega) (fun y hy => absurd hy List.not_mem_nil) hp⟩
/-- the reference's search finds what the class's table finds -/
theorem order_eq {w : AW} {l : List Nat} {h c a : Nat → Int32} {H : Nat → Nat} (hm0 : 0 < l.length) (hm : l.length ≤ 7) (hH : ∀ i, H i ≤ 500) (hh : ∀ i, i < l.length → h i = nI (H i)) (hr : ∀ i, i < l.length → wA w 107 (ge l i) = h i) (hc : ∀ i, i < l.length → wA w 109 (ge l i) = c i) (ha : APR l.length a (oAp w (ge l))) : foR w l = enO (Bst l.length (mayC l.length c a) H l.length []) := by
  have hs : ∀ x y, oAp w (ge l) x y = oAp w (ge l) y x := fun x y => by unfold oAp rApart; exact Bool.or_comm _ _
  unfold foR
  rw [foC_fold]
  show (valO l.length (mayR (oAp w (ge l)) (oCh w (ge l))) (l.length - 1) [] l.length 0).foldl (fun st p => lfO (fun i => wA w 107 (ge l i)) l.length p st) (enO none) = _
  rw [fold_upd hH (fun i hi => (hr i hi).trans (hh i hi)) hm _ none (fun p hp => valO_mem hm0 hp) (fun x hx => by cases hx), valO_ch (ch := oCh w (ge l)) (P := oAp w (ge l)) hm0 (c := c) hc, valO_eq hm0 hm hs ha, fm_val, show l.length - 1 + 1 = l.length by omega]
