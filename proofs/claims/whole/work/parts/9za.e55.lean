theorem stz_ls : ∀ k, k < 6 → Cond.laysStatic RX4 (kNm k) "LTravellingPictures$Kind;" ∈ lw_tbl := by
  intro k hk
  match k, hk with
  | 0, _ => exact List.mem_append_right _ (List.mem_append_right _ (List.mem_append_right _ (List.mem_append_right _ (List.mem_append_left _ (List.mem_of_getElem? (i := 62) rfl)))))
  | 1, _ => exact List.mem_append_right _ (List.mem_append_right _ (List.mem_append_right _ (List.mem_append_right _ (List.mem_append_left _ (List.mem_of_getElem? (i := 131) rfl)))))
  | 2, _ => exact List.mem_append_right _ (List.mem_append_right _ (List.mem_append_right _ (List.mem_append_right _ (List.mem_append_left _ (List.mem_of_getElem? (i := 133) rfl)))))
  | 3, _ => exact List.mem_append_right _ (List.mem_append_right _ (List.mem_append_right _ (List.mem_append_right _ (List.mem_append_left _ (List.mem_of_getElem? (i := 86) rfl)))))
  | 4, _ => exact List.mem_append_right _ (List.mem_append_right _ (List.mem_append_right _ (List.mem_append_right _ (List.mem_append_left _ (List.mem_of_getElem? (i := 224) rfl)))))
  | 5, _ => exact List.mem_append_right _ (List.mem_append_right _ (List.mem_append_right _ (List.mem_append_right _ (List.mem_append_left _ (List.mem_of_getElem? (i := 83) rfl)))))
  | k + 6, h => exact absurd h (by omega)
theorem stz_in : ∀ k, k < 13 → Cond.instantiable (vRn k) (vnn k) ∈ lw_tbl := by
  intro k hk
  match k, hk with
  | 0, _ => exact List.mem_append_right _ (List.mem_append_left _ (List.mem_of_getElem? (i := 44) rfl))
  | 1, _ => exact List.mem_append_right _ (List.mem_append_left _ (List.mem_of_getElem? (i := 72) rfl))
  | 2, _ => exact List.mem_append_right _ (List.mem_append_right _ (List.mem_append_right _ (List.mem_append_right _ (List.mem_append_left _ (List.mem_of_getElem? (i := 92) rfl)))))
  | 3, _ => exact List.mem_append_right _ (List.mem_append_right _ (List.mem_append_right _ (List.mem_append_right _ (List.mem_append_left _ (List.mem_of_getElem? (i := 142) rfl)))))
  | 4, _ => exact List.mem_append_right _ (List.mem_append_left _ (List.mem_of_getElem? (i := 96) rfl))
  | 5, _ => exact List.mem_append_right _ (List.mem_append_right _ (List.mem_append_left _ (List.mem_of_getElem? (i := 204) rfl)))
  | 6, _ => exact List.mem_append_right _ (List.mem_append_right _ (List.mem_append_right _ (List.mem_append_left _ (List.mem_of_getElem? (i := 181) rfl))))
  | 7, _ => exact List.mem_append_right _ (List.mem_append_right _ (List.mem_append_right _ (List.mem_append_left _ (List.mem_of_getElem? (i := 206) rfl))))
  | 8, _ => exact List.mem_append_right _ (List.mem_append_right _ (List.mem_append_right _ (List.mem_append_left _ (List.mem_of_getElem? (i := 36) rfl))))
  | 9, _ => exact List.mem_append_right _ (List.mem_append_left _ (List.mem_of_getElem? (i := 183) rfl))
  | 10, _ => exact List.mem_append_right _ (List.mem_append_right _ (List.mem_append_left _ (List.mem_of_getElem? (i := 144) rfl)))
  | 11, _ => exact List.mem_append_right _ (List.mem_append_left _ (List.mem_of_getElem? (i := 36) rfl))
  | 12, _ => exact List.mem_append_right _ (List.mem_append_right _ (List.mem_append_right _ (List.mem_append_right _ (List.mem_append_right _ (List.mem_append_right _ (List.mem_append_left _ (List.mem_of_getElem? (i := 22) rfl)))))))
  | k + 13, h => exact absurd h (by omega)
theorem stz_sr : ∀ q ∈ msgs, Cond.stringRef RX11 q.1 q.2 ∈ lw_tbl := List.forall_mem_cons.mpr ⟨List.mem_append_right _ (List.mem_append_right _ (List.mem_append_left _ (List.mem_of_getElem? (i := 117) rfl))), List.forall_mem_cons.mpr ⟨List.mem_append_right _ (List.mem_append_right _ (List.mem_append_right _ (List.mem_append_left _ (List.mem_of_getElem? (i := 3) rfl)))), List.forall_mem_cons.mpr ⟨List.mem_append_right _ (List.mem_append_right _ (List.mem_append_right _ (List.mem_append_left _ (List.mem_of_getElem? (i := 17) rfl)))), List.forall_mem_cons.mpr ⟨List.mem_append_right _ (List.mem_append_right _ (List.mem_append_right _ (List.mem_append_left _ (List.mem_of_getElem? (i := 95) rfl)))), List.forall_mem_cons.mpr ⟨List.mem_append_right _ (List.mem_append_right _ (List.mem_append_right _ (List.mem_append_left _ (List.mem_of_getElem? (i := 109) rfl)))), List.forall_mem_cons.mpr ⟨List.mem_append_right _ (List.mem_append_right _ (List.mem_append_right _ (List.mem_append_left _ (List.mem_of_getElem? (i := 174) rfl)))), List.forall_mem_cons.mpr ⟨List.mem_append_right _ (List.mem_append_right _ (List.mem_append_right _ (List.mem_append_right _ (List.mem_append_left _ (List.mem_of_getElem? (i := 178) rfl))))), List.forall_mem_cons.mpr ⟨List.mem_append_right _ (List.mem_append_right _ (List.mem_append_right _ (List.mem_append_right _ (List.mem_append_right _ (List.mem_append_left _ (List.mem_of_getElem? (i := 64) rfl)))))), List.forall_mem_cons.mpr ⟨List.mem_append_right _ (List.mem_append_right _ (List.mem_append_right _ (List.mem_append_right _ (List.mem_append_right _ (List.mem_append_left _ (List.mem_of_getElem? (i := 151) rfl)))))), fun _ h => absurd h List.not_mem_nil⟩⟩⟩⟩⟩⟩⟩⟩⟩
theorem ng_of {w : Cond} (hg : isNG w = true) {A : Array Value} {U : State} (h : w.before A U = true) : va_Nw w U := by
  unfold isNG at hg
  split at hg
  · exact va_Nw.of rfl h
  · exact va_Nw.of rfl h
  · exact va_Nw.of rfl h
  · exact va_Nw.of rfl h
  · exact va_AO.of h
  · cases hg
def stAd (adk adS adV : Nat → Nat) (aK aD aM aF : Nat) (i : Nat) : Nat := if i < 16 then adk (i - 10) else if i = 16 then aK else if i = 17 then aD else if i = 18 then aM else if i = 19 then aF else if i < 26 then adS (i - 20) else adV (i - 30)
theorem stAd1 {adk adS adV : Nat → Nat} {aK aD aM aF k : Nat} (h : k < 6) : stAd adk adS adV aK aD aM aF (10 + k) = adk k := by
  unfold stAd
  rw [if_pos (by omega), Nat.add_sub_cancel_left]
theorem stAd2 {adk adS adV : Nat → Nat} {aK aD aM aF k : Nat} (h : k < 6) : stAd adk adS adV aK aD aM aF (20 + k) = adS k := by
  unfold stAd
  rw [if_neg (by omega), if_neg (by omega), if_neg (by omega), if_neg (by omega), if_neg (by omega), if_pos (by omega), Nat.add_sub_cancel_left]
theorem stAd3 {adk adS adV : Nat → Nat} {aK aD aM aF k : Nat} (h : k < 6) : stAd adk adS adV aK aD aM aF (30 + k) = adV k := by
  unfold stAd
  rw [if_neg (by omega), if_neg (by omega), if_neg (by omega), if_neg (by omega), if_neg (by omega), if_neg (by omega), Nat.add_sub_cancel_left]
theorem st_E {args : Array Value} {s : State} (hts : ∀ w ∈ lw_tbl, w.before args s = true) (hnf : ∀ w ∈ NFL, w.before args s = true) : ∃ E : AE, E.2.2 = s.heap.size ∧ KK E s ∧ KY E s s.heap := by
  have hA : ∀ a : Nat, a < s.heap.size → ¬ s.heap.size ≤ a := fun a h => Nat.not_le.mpr h
  have hT : ∀ w ∈ TBL, w.before args s = true := fun w hw => hts w (List.mem_filter.mp hw).1
  have hKn : ∀ c : Nat, ∃ q : ClassId × (Nat → Nat), c < 13 → u_Kn s (vRn c) (vTb c) (vnn c) q.1 q.2 := by
    intro c
    by_cases hc : c < 13
    · obtain ⟨cC, iS, h⟩ := u_known (n := vnn c) hT (cw_all c hc) (hts _ (stz_in c hc))
      exact ⟨(cC, iS), fun _ => h⟩
    · exact ⟨(0, fun _ => 0), fun h => absurd h hc⟩
  obtain ⟨kn, hkn⟩ := Classical.axiomOfChoice hKn
  obtain ⟨cI, kI, pI, i1, i2, i3⟩ := Cond.arrayClass_spec (type := .int) (args := args) (first := s) (o := none) (s := s) (idx := []) (hts (.arrayClass .int) (List.mem_append_right _ (List.mem_append_left _ (List.mem_of_getElem? (i := 94) rfl))))
  obtain ⟨cB, kB, pB, b1, b2, b3⟩ := Cond.arrayClass_spec (type := .byte) (args := args) (first := s) (o := none) (s := s) (idx := []) (hts (.arrayClass .byte) (List.mem_append_right _ (List.mem_append_left _ (List.mem_of_getElem? (i := 173) rfl))))
  obtain ⟨cJ, kJ, pJ, j1, j2, j3⟩ := Cond.arrayClass_spec (type := .long) (args := args) (first := s) (o := none) (s := s) (idx := []) (hts (.arrayClass .long) (List.mem_append_right _ (List.mem_append_right _ (List.mem_append_right _ (List.mem_append_right _ (List.mem_append_right _ (List.mem_append_right _ (List.mem_append_right _ (List.mem_append_left _ (List.mem_of_getElem? (i := 220) rfl))))))))))
  obtain ⟨pO, cO, kO, o1, -, o2, o3, o4⟩ := Cond.arrayOver_spec (n := "java/lang/Object") (args := args) (first := s) (o := none) (s := s) (idx := []) (hts (.arrayOver (.object "java/lang/Object")) (List.mem_append_right _ (List.mem_append_right _ (List.mem_append_left _ (List.mem_of_getElem? (i := 10) rfl)))))
  obtain ⟨pL, cL, kL, l1, -, l2, l3, l4⟩ := Cond.arrayOver_spec (n := RX6) (args := args) (first := s) (o := none) (s := s) (idx := []) (hts (.arrayOver (.object RX6)) (List.mem_append_right _ (List.mem_append_left _ (List.mem_of_getElem? (i := 70) rfl))))
  obtain ⟨aM, hM⟩ := va_Mi.of (hnf _ nf_m)
  have hk0 : ∀ k : Nat, ∃ a : Nat, k < 6 → (tkK k).eval args s none [] s = some (.ref a) := by
    intro k
    by_cases hk : k < 6
    · obtain ⟨a, c, cA, kA, q1, -⟩ := Cond.exactly_spec (args := args) (first := s) (o := none) (s := s) (idx := []) (hnf _ (nf_ex k hk))
      exact ⟨a, fun _ => q1⟩
    · exact ⟨0, fun h => absurd h hk⟩
  obtain ⟨adk, hadk⟩ := Classical.axiomOfChoice hk0
  obtain ⟨adS, adV, hS, heS⟩ := vk_Sof (args := args) (s := s) (N := 6) (tm := tsK) (len := [6, 5, 5, 4, 4, 5]) (byt := [kByt 0, kByt 1, kByt 2, kByt 3, kByt 4, kByt 5]) (A := fun q => s.heap.size ≤ q) (by decide) (fun i hi => hnf _ (nf_sx i hi)) (fun i hi => hnf _ (nf_sc i hi)) (fun i hi => hnf _ (nf_sa i hi)) (fun i hi => hnf _ (nf_sl i hi)) (fun i hi j hj => hnf _ (nf_se i hi j hj)) (fun i j hi hj hij => (nf_sn i hi j hj hij).imp (hnf _) (hnf _)) hA
  obtain ⟨aK, hK1, hK2⟩ := va_Tof (args := args) (s := s) (tm := tKS) (ty := .object RX4) (N := 6) (f := fun j => .ref (adk j)) (A := fun q => s.heap.size ≤ q) (by decide) (hnf _ nf_k1) (va_eqt (hnf _ nf_k2)) (fun j hj => va_eqv (hnf _ (nf_k3 j hj)) (hadk j hj)) hA
  obtain ⟨aD, hD1, hD2⟩ := va_Tof (args := args) (s := s) (tm := tDE) (ty := .object "java/lang/Object") (N := 0) (f := fun _ => .null) (A := fun q => s.heap.size ≤ q) (by decide) (hnf _ nf_d1) (va_eqt (hnf _ nf_d2)) (fun j hj => absurd hj (Nat.not_lt_zero j)) hA
  have hF0 : ∃ aF : Nat, va_Z RJ3 "SIOOBE_FORMATTER" "Ljava/util/function/BiFunction;" .null (fun q => s.heap.size ≤ q) s s.heap ∨ va_Z RJ3 "SIOOBE_FORMATTER" "Ljava/util/function/BiFunction;" (.ref aF) (fun q => s.heap.size ≤ q) s s.heap := by
    rcases va_Zqof (A := fun q => s.heap.size ≤ q) (hts (.laysStatic RJ3 "SIOOBE_FORMATTER" "Ljava/util/function/BiFunction;") (List.mem_append_right _ (List.mem_append_right _ (List.mem_append_right _ (List.mem_append_right _ (List.mem_append_left _ (List.mem_of_getElem? (i := 35) rfl))))))) (hts (.initialized RJ3) (List.mem_append_right _ (List.mem_append_left _ (List.mem_of_getElem? (i := 20) rfl)))) (hnf _ nf_f) hA with h | ⟨t, h⟩
    · exact ⟨0, Or.inl h⟩
    · exact ⟨t, Or.inr h⟩
  obtain ⟨aF, hF⟩ := hF0
  have hi4 := hts (.initialized RX4) (List.mem_append_right _ (List.mem_append_left _ (List.mem_of_getElem? (i := 31) rfl)))
  refine ⟨((fun c => if c = 50 then cO else if c = 51 then cL else (kn c).1, fun c => if c = 60 then stAd adk adS adV aK aD aM aF else (kn c).2), (cI, cB, cJ), s.heap.size), rfl, ⟨fun c hc => ?_, ⟨fun n z => ⟨fun k h => (by cases h), kI, i2, pI, i3⟩, i1⟩, ⟨fun n z => ⟨fun k h => (by cases h), kB, b2, pB, b3⟩, b1⟩, ⟨fun n z => ⟨fun k h => (by cases h), kJ, j2, pJ, j3⟩, j1⟩⟩, ⟨fun n z => ⟨fun k h => (by cases h), kO, o2, pO, o3⟩, kO, pO, o2, o3, o1, o4⟩, ⟨fun n z => ⟨fun k h => (by cases h), kL, l2, pL, l3⟩, kL, pL, l2, l3, l1, l4⟩, fun w hw => ?_, hM, fun k hk => ⟨?_, ?_⟩, fun i j hi hj h => ?_, ⟨fun i hi => ?_, fun i j hi hj h => ?_⟩, ⟨?_, ?_⟩, ⟨?_, hD2⟩, ?_, ⟨?_, ?_⟩, fun q hq => ?_, hF⟩
  · show u_Kn s _ _ _ (if c = 50 then cO else if c = 51 then cL else (kn c).1) (if c = 60 then stAd adk adS adV aK aD aM aF else (kn c).2)
    rw [if_neg (by omega), if_neg (by omega), if_neg (by omega)]
    exact hkn c hc
  · obtain ⟨h1, h2⟩ := List.mem_filter.mp hw
    exact ng_of h2 (hts w (List.mem_append_right _ h1))
  · show va_Z RX4 (kNm k) _ (.ref (stAd adk adS adV aK aD aM aF (10 + k))) _ s s.heap
    rw [stAd1 hk]
    exact va_Zof (hts _ (stz_ls k hk)) hi4 (hadk k hk) hA
  · show va_OF RX4 "word" _ (.ref (stAd adk adS adV aK aD aM aF (20 + k))) (stAd adk adS adV aK aD aM aF (10 + k)) _ s s.heap
    rw [stAd1 hk, stAd2 hk]
    exact vk_OFof (hadk k hk) (va_eqv (hnf _ (nf_wd k hk)) (heS k hk)) hA
  · have h : stAd adk adS adV aK aD aM aF (10 + i) = stAd adk adS adV aK aD aM aF (10 + j) := h
    rw [stAd1 hi, stAd1 hj] at h
    by_cases hij : i = j
    · exact hij
    · rcases nf_ne i hi j hj hij with g | g
      · exact absurd h (va_neR (hnf _ g) (hadk i hi) (hadk j hj))
      · exact absurd h.symm (va_neR (hnf _ g) (hadk j hj) (hadk i hi))
  · show va_O _ (stAd adk adS adV aK aD aM aF (20 + i)) _ s s.heap ∧ va_OF _ _ _ _ (stAd adk adS adV aK aD aM aF (20 + i)) _ s s.heap ∧ va_OF _ _ _ (.ref (stAd adk adS adV aK aD aM aF (30 + i))) (stAd adk adS adV aK aD aM aF (20 + i)) _ s s.heap ∧ va_T _ (stAd adk adS adV aK aD aM aF (30 + i)) _ _ _ s s.heap
    rw [stAd2 hi, stAd3 hi]
    exact hS.1 i hi
  · have h : stAd adk adS adV aK aD aM aF (20 + i) = stAd adk adS adV aK aD aM aF (20 + j) := h
    rw [stAd2 hi, stAd2 hj] at h
    exact hS.2 i j hi hj h
  · exact va_Zof (hts (.laysStatic RX11 "KINDS" "[LTravellingPictures$Kind;") (List.mem_append_right _ (List.mem_append_right _ (List.mem_append_right _ (List.mem_append_right _ (List.mem_append_left _ (List.mem_of_getElem? (i := 5) rfl))))))) (hts (.initialized RX11) (List.mem_append_right _ (List.mem_append_left _ (List.mem_of_getElem? (i := 1) rfl)))) hK1 hA
  · obtain ⟨cell, g1, g2, g3, g4, g5, g6, g7⟩ := hK2
    refine ⟨cell, g1, g2, g3, g4, g5, fun j hj => ?_, g7⟩
    show cell.slots[j]? = some (.ref (stAd adk adS adV aK aD aM aF (10 + j)))
    rw [stAd1 hj]
    exact g6 j hj
  · exact va_Zof (hts (.laysStatic RJx4a65c "DEFAULTCAPACITY_EMPTY_ELEMENTDATA" "[Ljava/lang/Object;") (List.mem_append_right _ (List.mem_append_left _ (List.mem_of_getElem? (i := 56) rfl)))) (hts (.initialized RJx4a65c) (List.mem_append_right _ (List.mem_append_left _ (List.mem_of_getElem? (i := 4) rfl)))) hD1 hA
  · exact va_Zof (hts (.laysStatic "java/lang/String" "COMPACT_STRINGS" "Z") (List.mem_append_right _ (List.mem_append_right _ (List.mem_append_right _ (List.mem_append_right _ (List.mem_append_left _ (List.mem_of_getElem? (i := 19) rfl))))))) (hts (.initialized "java/lang/String") (List.mem_append_right _ (List.mem_append_left _ (List.mem_of_getElem? (i := 27) rfl)))) (va_eqi (hnf _ nf_cs)) hA
  · exact vx_Zqof (hts (.laysStatic Bundle.tN "UNASSIGNED_STACK" Bundle.steD) (List.mem_append_right _ (List.mem_append_right _ (List.mem_append_left _ (List.mem_of_getElem? (i := 102) rfl))))) (hts (.initialized Bundle.tN) (List.mem_append_right _ (List.mem_append_left _ (List.mem_of_getElem? (i := 8) rfl)))) (hnf _ nf_u1) hA
  · exact vx_Zqof (hts (.laysStatic Bundle.tN "SUPPRESSED_SENTINEL" Bundle.listD) (List.mem_append_right _ (List.mem_append_right _ (List.mem_append_left _ (List.mem_of_getElem? (i := 104) rfl))))) (hts (.initialized Bundle.tN) (List.mem_append_right _ (List.mem_append_left _ (List.mem_of_getElem? (i := 8) rfl)))) (hnf _ nf_u2) hA
  · obtain ⟨a, c, cA, kA, q1, -⟩ := Cond.exactly_spec (args := args) (first := s) (o := none) (s := s) (idx := []) (hnf _ (nf_ms q hq))
    exact ⟨a, vk_R.of (hts _ (stz_sr q hq)) q1⟩
