/-! ===== lists from outside: a thing of kind 40 holds a list of things ===== -/
def LC (w : AW) : Prop := wT w 17 = 50 ∧ wT w 18 = 50 ∧ wT w 41 = 0 ∧ wT w 42 = 0
def LW (w : AW) (t : Nat) : Prop := LC w ∧ wT w t = 40 ∧ (wL w t).length ≤ 2190 ∧ ∀ q ∈ wL w t, 1 ≤ wT w q ∧ wT w q ≤ 13
theorem sL_self (w : AW) (t : Nat) : sL w t (wL w t) = w := by
  unfold sL
  have e : up1 w.2.2.2.2.2.2.2 t (wL w t) = w.2.2.2.2.2.2.2 := by
    funext q
    unfold up1 wL
    by_cases h : q = t
    · rw [if_pos h, h]
    · rw [if_neg h]
  rw [e]
theorem sT_self (w : AW) (t v : Nat) (h : wT w t = v) : sT w t v = w := by
  unfold sT
  have e : up1 w.1 t v = w.1 := by
    funext q
    unfold up1
    by_cases hq : q = t
    · rw [if_pos hq, hq, ← h]; rfl
    · rw [if_neg hq]
  rw [e]
theorem agr.sT (w : AW) (t v : Nat) : agr w (sT w t v) t := fun q a b c => ⟨by rw [wT_sT, if_neg a], fun _ => rfl, fun _ => rfl, rfl, fun _ => rfl, fun _ => rfl, fun _ => rfl, rfl⟩
theorem agr.opA (w : AW) (t : Nat) (m : Int32) (cap : Nat) : agr w (opA w t m cap) t := (((((agr.nA w t 41 23 cap (Or.inl rfl)).tr (agr.sQ _ t 41 _ (Or.inl rfl))).tr (agr.sR _ t 1 _)).tr (agr.sI _ t 0 _)).tr (agr.sI _ t 2 _)).tr (agr.sT _ t 1)
theorem agr.opZ (w : AW) (t : Nat) (m : Int32) : agr w (opZ w t m) t := (((agr.sR w t 1 _).tr (agr.sI _ t 0 _)).tr (agr.sI _ t 2 _)).tr (agr.sT _ t 1)
theorem listView {l : Launch} {E : AE} {y : MethodName} {cc : ByteArray} {maxL : Nat} {ret : Option FieldType} {fr lo mc ms : Nat} {as : List Value} {w : AW} {t : Nat} (hW : LW w t) {P : AO → List Nat → Prop}
    (hM : ∀ w', opL w' t (wL w t) → agr w w' t → MA l E y cc maxL ret fr lo mc ms as w' (fun o w1 => ∃ xs, P o xs ∧ opQ w' t xs w1))
    (has : ∀ v ∈ as, lvv w v) (hP : ∀ o xs, P o xs → (∀ q ∈ xs, wT w q ≠ 0) ∧ ∀ v, o = .inl (some v) → lvv w v) : MA l E y cc maxL ret fr lo mc ms as w (fun o w2 => ∃ xs, P o xs ∧ w2 = sL w t xs) := by
  obtain ⟨⟨h17, h18, h41, h42⟩, hT, hlen, hel⟩ := hW
  have ht41 : t ≠ 41 := fun z => by rw [z] at hT; omega
  have ht42 : t ≠ 42 := fun z => by rw [z] at hT; omega
  have ht17 : t ≠ 17 := fun z => by rw [z] at hT; omega
  have ht18 : t ≠ 18 := fun z => by rw [z] at hT; omega
  have hsT : sT w t 40 = w := sT_self w t 40 hT
  refine MA.view (fun ad H hC hlt => ?_)
  have fin : ∀ (ad' : AM) (w' : AW), agr w w' t → (∀ i, wT w i ≠ 0 → wT w' i ≠ 0 ∧ ad'.1 i = ad.1 i) → ∀ (o : AO) (w1 : AW) (ad1 : AM) (H1 : Heap), (∃ xs, P o xs ∧ opQ w' t xs w1) → Conc E ad1 w1 H1 → mExt ad' w' ad1 w1 → ∃ (w2 : AW) (ad2 : AM), (∃ xs, P o xs ∧ w2 = sL w t xs) ∧ Conc E ad2 w2 H1 ∧ mExt ad w ad2 w2 ∧ ∀ v, o = .inl (some v) → cv ad2 v = cv ad1 v ∧ lvv w2 v := by
    intro ad' w' hag hx o w1 ad1 H1 hQ hC1 hext
    obtain ⟨xs, hp, ha, hT1, hI, Y, hR, hY⟩ := hQ
    have hcl := Conc.close hC hC1 (Or.inl hT) h41 h42 (hag.tr ha) hT1 hR hI (hP o xs hp).1 (by
      rcases hY with ⟨a, b, c⟩ | h
      · exact Or.inl ⟨a, b, c, hlt⟩
      · exact Or.inr h)
    rw [hsT] at hcl
    refine ⟨_, _, ⟨xs, hp, rfl⟩, hcl, fun i hi => ⟨hi, ?_⟩, fun v hv => ⟨by cases v <;> rfl, (hP o xs hp).2 v hv⟩⟩
    obtain ⟨a, b⟩ := hx i hi
    exact (hext i a).2.trans b
  by_cases hE : E.2.2 ≤ ad.2 t
  · obtain ⟨m, cap, g5, g6, g7, hC'⟩ := hC.openA hT h41 hE
    have hx : ∀ i, wT w i ≠ 0 → wT (opA w t m cap) i ≠ 0 ∧ up1 ad.1 41 (ad.2 t) i = ad.1 i := fun i hi => by
      have h9 : i ≠ 41 := fun z => hi (by rw [z]; exact h41)
      refine ⟨?_, by simp [up1, h9]⟩
      by_cases hit : i = t
      · subst hit; unfold opA; rw [wT_sT, if_pos rfl]; decide
      · rw [(agr.opA w t m cap i hit h9 (fun z => hi (by rw [z]; exact h42))).1]; exact hi
    refine ⟨(up1 ad.1 41 (ad.2 t), ad.2), opA w t m cap, _, hM _ ⟨?_, ?_, by omega, ?_, ?_, ?_, ht41, ht42, Or.inr ⟨?_, ?_, ?_, ?_, ?_, fun j _ => ?_, fun j hj => ?_, fun q j hq => ?_⟩⟩ (agr.opA w t m cap), hC', fun v hv => ⟨?_, fun i hi => (hx i (has v hv i hi)).1⟩, fun o w1 ad1 H1 hQ hC1 hext _ => fin _ _ (agr.opA w t m cap) hx o w1 ad1 H1 hQ hC1 hext⟩
    · unfold opA; rw [wT_sT, if_pos rfl]
    · unfold opA; rw [wI_sT, wI_sI, if_pos rfl, if_pos rfl]; rfl
    · rw [(agr.opA w t m cap 17 (Ne.symm ht17) (by decide) (by decide)).1]; exact h17
    · rw [(agr.opA w t m cap 18 (Ne.symm ht18) (by decide) (by decide)).1]; exact h18
    · unfold opA; rw [wT_sT, if_neg (Ne.symm ht42), wT_sI, wT_sI, wT_sR, wT_sQ, wT_nA, if_neg (by decide)]; exact h42
    · unfold opA; rw [wR_sT, wR_sI, wR_sI, wR_sR, if_pos rfl, if_pos rfl]
    · unfold opA; rw [wT_sT, if_neg (Ne.symm ht41), wT_sI, wT_sI, wT_sR, wT_sQ, wT_nA, if_pos rfl]
    · unfold opA; rw [wN_sT, wN_sI, wN_sI, wN_sR, wN_sQ, wN_nA, if_pos rfl]; exact g5
    · unfold opA; rw [wN_sT, wN_sI, wN_sI, wN_sR, wN_sQ, wN_nA, if_pos rfl]; exact g6
    · unfold opA; rw [wN_sT, wN_sI, wN_sI, wN_sR, wN_sQ, wN_nA, if_pos rfl]; exact g7
    · unfold opA; rw [wP_sT, wP_sI, wP_sI, wP_sR, wP_sQ, if_pos rfl]
    · have : cap ≤ j := by
        have h9 := hj
        unfold opA at h9
        rw [wN_sT, wN_sI, wN_sI, wN_sR, wN_sQ, wN_nA, if_pos rfl] at h9
        exact h9
      unfold opA; rw [wP_sT, wP_sI, wP_sI, wP_sR, wP_sQ, if_pos rfl]; exact List.getElem?_eq_none (by omega)
    · unfold opA at hq
      rw [wP_sT, wP_sI, wP_sI, wP_sR, wP_sQ, if_pos rfl] at hq
      have h9 := hel j (List.mem_of_getElem? hq)
      have hjt : j ≠ t := fun z => by rw [z, hT] at h9; omega
      rw [(agr.opA w t m cap j hjt (fun z => by rw [z, h41] at h9; omega) (fun z => by rw [z, h42] at h9; omega)).1]
      exact h9
    · cases v with
      | ref i => show Value.ref (up1 ad.1 41 (ad.2 t) i) = Value.ref (ad.1 i); rw [(hx i (has _ hv i rfl)).2]
      | _ => rfl
  · obtain ⟨hnil, m, hC'⟩ := hC.openZ hT h17 hE
    have hx : ∀ i, wT w i ≠ 0 → wT (opZ w t m) i ≠ 0 ∧ ad.1 i = ad.1 i := fun i hi => by
      refine ⟨?_, rfl⟩
      by_cases hit : i = t
      · subst hit; unfold opZ; rw [wT_sT, if_pos rfl]; decide
      · unfold opZ; rw [wT_sT, if_neg hit]; exact hi
    refine ⟨ad, opZ w t m, _, hM _ ⟨?_, ?_, by omega, ?_, ?_, ?_, ht41, ht42, Or.inl ⟨?_, hnil, ?_⟩⟩ (agr.opZ w t m), hC', fun v hv => ⟨rfl, fun i hi => (hx i (has v hv i hi)).1⟩, fun o w1 ad1 H1 hQ hC1 hext _ => fin _ _ (agr.opZ w t m) hx o w1 ad1 H1 hQ hC1 hext⟩
    · unfold opZ; rw [wT_sT, if_pos rfl]
    · unfold opZ; rw [wI_sT, wI_sI, if_pos rfl, if_pos rfl, hnil]; rfl
    · unfold opZ; rw [wT_sT, if_neg (Ne.symm ht17)]; exact h17
    · unfold opZ; rw [wT_sT, if_neg (Ne.symm ht18)]; exact h18
    · unfold opZ; rw [wT_sT, if_neg (Ne.symm ht42)]; exact h42
    · unfold opZ; rw [wR_sT, wR_sI, wR_sI, wR_sR, if_pos rfl, if_pos rfl]
    · unfold opZ; rw [wT_sT, if_neg (Ne.symm ht41)]; exact h41
theorem opL_all {w : AW} {t : Nat} {xs : List Nat} (h : opL w t xs) : opQ w t xs w := by
  obtain ⟨hT, hI, hlen, h17, h18, h42, ht41, ht42, hS⟩ := h
  rcases hS with ⟨hR, rfl, h41⟩ | ⟨hR, h41, hcap, hc2, hc3, hP, hP0, hel⟩
  · exact ⟨agr.rf w t, hT, hI, 17, hR, Or.inl ⟨rfl, rfl, h17⟩⟩
  · exact ⟨agr.rf w t, hT, hI, 41, hR, Or.inr ⟨Or.inl rfl, h41, hcap, hc2, hc3, hP⟩⟩
def sp_Jx4a65c_size_8abf5 : CSp := fun as w K => ∃ (t : Nat), as = [.ref t] ∧ LW w t ∧ K (.inl (some (.int (nI (wL w t).length)))) w
theorem sq_Jx4a65c_size_8abf5 {w : AW} {K : AO → AW → Prop} {t : Nat} : sp_Jx4a65c_size_8abf5 [.ref t] w K = (LW w t ∧ K (.inl (some (.int (nI (wL w t).length)))) w) := propext ⟨fun h => by obtain ⟨_, h, hp⟩ := h; cases h; exact hp, fun hp => ⟨_, rfl, hp⟩⟩
theorem ct_Jx4a65c_size_8abf5 (l : Launch) (E : AE) : ∀ (as : List Value) (w : AW) (Q : AO → AW → Prop), sp_Jx4a65c_size_8abf5 as w Q → MA l E yJx4a65c_size_8abf5 cJx4a65c_size_8abf5 1 (some FieldType.int) 1 12 0 0 as w Q := by
  intro as w Q h
  obtain ⟨t, has, h⟩ := h
  subst has
  obtain ⟨hW, hq⟩ := h
  have hlt : lvv w (.ref t) := fun i hi => by cases hi; rw [hW.2.1]; decide
  refine (listView hW (P := fun o xs => o = .inl (some (.int (nI (wL w t).length))) ∧ xs = wL w t) (fun w' hL _ => cto_Jx4a65c_size_8abf5 l E _ _ _ ⟨t, rfl, hL.1, _, ⟨by rw [hL.2.1], rfl⟩, opL_all hL⟩) (fun v hv => by rw [List.mem_singleton.mp hv]; exact hlt) (fun o xs hp => ⟨by rw [hp.2]; exact (fun q hq => by have := hW.2.2.2 q hq; omega), fun v hv => by rw [hp.1] at hv; cases hv; exact lvv_int _ _⟩)).mono (fun o w1 h1 => ?_)
  obtain ⟨xs, ⟨rfl, rfl⟩, rfl⟩ := h1
  rw [sL_self]; exact hq
def sp_Jx4a65c_isEmpty_aae02 : CSp := fun as w K => ∃ (t : Nat), as = [.ref t] ∧ LW w t ∧ (wL w t = [] → K (.inl (some (.int 1))) w) ∧ (¬ wL w t = [] → K (.inl (some (.int 0))) w)
theorem sq_Jx4a65c_isEmpty_aae02 {w : AW} {K : AO → AW → Prop} {t : Nat} : sp_Jx4a65c_isEmpty_aae02 [.ref t] w K = (LW w t ∧ (wL w t = [] → K (.inl (some (.int 1))) w) ∧ (¬ wL w t = [] → K (.inl (some (.int 0))) w)) := propext ⟨fun h => by obtain ⟨_, h, hp⟩ := h; cases h; exact hp, fun hp => ⟨_, rfl, hp⟩⟩
theorem ct_Jx4a65c_isEmpty_aae02 (l : Launch) (E : AE) : ∀ (as : List Value) (w : AW) (Q : AO → AW → Prop), sp_Jx4a65c_isEmpty_aae02 as w Q → MA l E yJx4a65c_isEmpty_aae02 cJx4a65c_isEmpty_aae02 1 (some FieldType.boolean) 1 12 0 0 as w Q := by
  intro as w Q h
  obtain ⟨t, has, h⟩ := h
  subst has
  obtain ⟨hW, hq1, hq2⟩ := h
  have hlt : lvv w (.ref t) := fun i hi => by cases hi; rw [hW.2.1]; decide
  refine (listView hW (P := fun o xs => o = .inl (some (.int (if wL w t = [] then 1 else 0))) ∧ xs = wL w t) (fun w' hL _ => cto_Jx4a65c_isEmpty_aae02 l E _ _ _ ⟨t, rfl, hL.1, fun z => ⟨_, ⟨?_, rfl⟩, opL_all hL⟩, fun z => ⟨_, ⟨?_, rfl⟩, opL_all hL⟩⟩) (fun v hv => by rw [List.mem_singleton.mp hv]; exact hlt) (fun o xs hp => ⟨by rw [hp.2]; exact (fun q hq => by have := hW.2.2.2 q hq; omega), fun v hv => by rw [hp.1] at hv; cases hv; exact lvv_int _ _⟩)).mono (fun o w1 h1 => ?_)
  · rw [hL.2.1] at z
    have e := (nI_eq (a := (wL w t).length) (b := 0) (by have := hW.2.2.1; omega) (by decide)).mp z
    rw [if_pos (List.eq_nil_of_length_eq_zero e)]
  · rw [hL.2.1] at z
    rw [if_neg (fun e => z (by rw [e]; rfl))]
  · obtain ⟨xs, ⟨rfl, rfl⟩, rfl⟩ := h1
    rw [sL_self]
    by_cases e : wL w t = []
    · rw [if_pos e]; exact hq1 e
    · rw [if_neg e]; exact hq2 e
def sp_Jx4a65c_get_915e3 : CSp := fun as w K => ∃ (t : Nat) (x : Int32), as = [.ref t, .int x] ∧ LW w t ∧ vp_in x (wL w t).length ∧ K (.inl (some (va_rf ((wL w t)[x.toNatClampNeg]?)))) w
theorem sq_Jx4a65c_get_915e3 {w : AW} {K : AO → AW → Prop} {t : Nat} {x : Int32} : sp_Jx4a65c_get_915e3 [.ref t, .int x] w K = (LW w t ∧ vp_in x (wL w t).length ∧ K (.inl (some (va_rf ((wL w t)[x.toNatClampNeg]?)))) w) := propext ⟨fun h => by obtain ⟨_, _, h, hp⟩ := h; cases h; exact hp, fun hp => ⟨_, _, rfl, hp⟩⟩
theorem ct_Jx4a65c_get_915e3 (l : Launch) (E : AE) : ∀ (as : List Value) (w : AW) (Q : AO → AW → Prop), sp_Jx4a65c_get_915e3 as w Q → MA l E yJx4a65c_get_915e3 cJx4a65c_get_915e3 2 (some (FieldType.object "java/lang/Object")) 3 55 0 0 as w Q := by
  intro as w Q h
  obtain ⟨t, x, has, h⟩ := h
  subst has
  obtain ⟨hW, hv, hq⟩ := h
  have hlt : lvv w (.ref t) := fun i hi => by cases hi; rw [hW.2.1]; decide
  obtain ⟨k, hk, rfl⟩ := vp_in_of hv (by have := hW.2.2.1; omega)
  rw [nI_clamp (by have := hW.2.2.1; omega)] at hq
  obtain ⟨j, hj⟩ : ∃ j, (wL w t)[k]? = some j := ⟨_, List.getElem?_eq_getElem hk⟩
  rw [hj] at hq
  have hjw := hW.2.2.2 j (List.mem_of_getElem? hj)
  have hjl : lvv w (.ref j) := fun i hi => by cases hi; omega
  refine (listView hW (P := fun o xs => o = .inl (some (.ref j)) ∧ xs = wL w t) (fun w' hL _ => ?_) (fun v hv => by
    rcases List.mem_cons.mp hv with rfl | hv
    · exact hlt
    · rw [List.mem_singleton.mp hv]; exact lvv_int _ _) (fun o xs hp => ⟨by rw [hp.2]; exact (fun q hq => by have := hW.2.2.2 q hq; omega), fun v hv => by rw [hp.1] at hv; cases hv; exact hjl⟩)).mono (fun o w1 h1 => ?_)
  · have hL0 := hL
    obtain ⟨hT, hI, hlen, h17, h18, h42, ht41, ht42, hS⟩ := hL0
    rcases hS with ⟨hR, hnil, h41⟩ | ⟨hR, h41, hcap, hc2, hc3, hP, hP0, hel⟩
    · rw [hnil] at hk; exact absurd hk (by simp)
    · refine cto_Jx4a65c_get_915e3 l E _ _ _ ⟨t, nI k, rfl, ⟨hT, hR, h41, vp_in_nI (by omega) (by omega), (nI_leI (a := 0) (by decide) (by omega)).mpr (by omega), by rw [hI]; exact (nI_ltI (by omega) (by omega)).mpr hk⟩, _, ⟨?_, rfl⟩, opL_all hL⟩
      rw [nI_clamp (by omega), hP k (by omega), hj]; rfl
  · obtain ⟨xs, ⟨rfl, rfl⟩, rfl⟩ := h1
    rw [sL_self]; exact hq
def sp_Jx4a65c_add_9ea2d : CSp := fun as w K => ∃ (t : Nat) (e : Nat), as = [.ref t, .ref e] ∧ LW w t ∧ (1 ≤ wT w e ∧ wT w e ≤ 13) ∧ K (.inl (some (.int 1))) (sL w t (wL w t ++ [e]))
theorem sq_Jx4a65c_add_9ea2d {w : AW} {K : AO → AW → Prop} {t : Nat} {e : Nat} : sp_Jx4a65c_add_9ea2d [.ref t, .ref e] w K = (LW w t ∧ (1 ≤ wT w e ∧ wT w e ≤ 13) ∧ K (.inl (some (.int 1))) (sL w t (wL w t ++ [e]))) := propext ⟨fun h => by obtain ⟨_, _, h, hp⟩ := h; cases h; exact hp, fun hp => ⟨_, _, rfl, hp⟩⟩
theorem ct_Jx4a65c_add_9ea2d (l : Launch) (E : AE) : ∀ (as : List Value) (w : AW) (Q : AO → AW → Prop), sp_Jx4a65c_add_9ea2d as w Q → MA l E yJx4a65c_add_9ea2d cJx4a65c_add_9ea2d 2 (some FieldType.boolean) 6 150 1 3310 as w Q := by
  intro as w Q h
  obtain ⟨t, e, has, h⟩ := h
  subst has
  obtain ⟨hW, he, hq⟩ := h
  have hlt : lvv w (.ref t) := fun i hi => by cases hi; rw [hW.2.1]; decide
  have hel : lvv w (.ref e) := fun i hi => by cases hi; omega
  refine (listView hW (P := fun o xs => o = .inl (some (.int 1)) ∧ xs = wL w t ++ [e]) (fun w' hL hag => cto_Jx4a65c_add_9ea2d l E _ _ _ ⟨t, e, rfl, trivial, wL w t, hL, ?_, fun w1 h1 => ⟨_, ⟨rfl, rfl⟩, h1⟩⟩) (fun v hv => by
    rcases List.mem_cons.mp hv with rfl | hv
    · exact hlt
    · rw [List.mem_singleton.mp hv]; exact hel) (fun o xs hp => ⟨fun q hq => by
    rw [hp.2] at hq
    rcases List.mem_append.mp hq with h | h
    · have := hW.2.2.2 q h; omega
    · rw [List.mem_singleton.mp h]; omega, fun v hv => by rw [hp.1] at hv; cases hv; exact lvv_int _ _⟩)).mono (fun o w1 h1 => ?_)
  · have het : e ≠ t := fun z => by rw [z, hW.2.1] at he; omega
    rw [(hag e het (fun z => by rw [z, hW.1.2.2.1] at he; omega) (fun z => by rw [z, hW.1.2.2.2] at he; omega)).1]; exact he
  · obtain ⟨xs, ⟨rfl, rfl⟩, rfl⟩ := h1
    exact hq
def sp_Jx4a65c_remove_915e3 : CSp := fun as w K => ∃ (t : Nat) (x : Int32), as = [.ref t, .int x] ∧ LW w t ∧ vp_in x (wL w t).length ∧ K (.inl (some (va_rf ((wL w t)[x.toNatClampNeg]?)))) (sL w t ((wL w t).eraseIdx x.toNatClampNeg))
theorem sq_Jx4a65c_remove_915e3 {w : AW} {K : AO → AW → Prop} {t : Nat} {x : Int32} : sp_Jx4a65c_remove_915e3 [.ref t, .int x] w K = (LW w t ∧ vp_in x (wL w t).length ∧ K (.inl (some (va_rf ((wL w t)[x.toNatClampNeg]?)))) (sL w t ((wL w t).eraseIdx x.toNatClampNeg))) := propext ⟨fun h => by obtain ⟨_, _, h, hp⟩ := h; cases h; exact hp, fun hp => ⟨_, _, rfl, hp⟩⟩
theorem ct_Jx4a65c_remove_915e3 (l : Launch) (E : AE) : ∀ (as : List Value) (w : AW) (Q : AO → AW → Prop), sp_Jx4a65c_remove_915e3 as w Q → MA l E yJx4a65c_remove_915e3 cJx4a65c_remove_915e3 4 (some (FieldType.object "java/lang/Object")) 3 63 0 0 as w Q := by
  intro as w Q h
  obtain ⟨t, x, has, h⟩ := h
  subst has
  obtain ⟨hW, hv, hq⟩ := h
  have hlt : lvv w (.ref t) := fun i hi => by cases hi; rw [hW.2.1]; decide
  obtain ⟨k, hk, rfl⟩ := vp_in_of hv (by have := hW.2.2.1; omega)
  rw [nI_clamp (by have := hW.2.2.1; omega)] at hq
  obtain ⟨j, hj⟩ : ∃ j, (wL w t)[k]? = some j := ⟨_, List.getElem?_eq_getElem hk⟩
  rw [hj] at hq
  have hjw := hW.2.2.2 j (List.mem_of_getElem? hj)
  have hjl : lvv w (.ref j) := fun i hi => by cases hi; omega
  refine (listView hW (P := fun o xs => o = .inl (some (.ref j)) ∧ xs = (wL w t).eraseIdx k) (fun w' hL _ => cto_Jx4a65c_remove_915e3 l E _ _ _ ⟨t, nI k, rfl, trivial, wL w t, k, j, hL, rfl, hj, fun w1 h1 => ⟨_, ⟨rfl, rfl⟩, h1⟩⟩) (fun v hv => by
    rcases List.mem_cons.mp hv with rfl | hv
    · exact hlt
    · rw [List.mem_singleton.mp hv]; exact lvv_int _ _) (fun o xs hp => ⟨fun q hq => by
    rw [hp.2] at hq
    have := hW.2.2.2 q (List.mem_of_mem_eraseIdx hq); omega, fun v hv => by rw [hp.1] at hv; cases hv; exact hjl⟩)).mono (fun o w1 h1 => ?_)
  obtain ⟨xs, ⟨rfl, rfl⟩, rfl⟩ := h1
  exact hq
def sp_Jx4a65c_clear_da8c8 : CSp := fun as w K => ∃ (t : Nat), as = [.ref t] ∧ LW w t ∧ K (.inl none) (sL w t [])
theorem sq_Jx4a65c_clear_da8c8 {w : AW} {K : AO → AW → Prop} {t : Nat} : sp_Jx4a65c_clear_da8c8 [.ref t] w K = (LW w t ∧ K (.inl none) (sL w t [])) := propext ⟨fun h => by obtain ⟨_, h, hp⟩ := h; cases h; exact hp, fun hp => ⟨_, rfl, hp⟩⟩
theorem ct_Jx4a65c_clear_da8c8 (l : Launch) (E : AE) : ∀ (as : List Value) (w : AW) (Q : AO → AW → Prop), sp_Jx4a65c_clear_da8c8 as w Q → MA l E yJx4a65c_clear_da8c8 cJx4a65c_clear_da8c8 4 (none) 1 12 0 0 as w Q := by
  intro as w Q h
  obtain ⟨t, has, h⟩ := h
  subst has
  obtain ⟨hW, hq⟩ := h
  have hlt : lvv w (.ref t) := fun i hi => by cases hi; rw [hW.2.1]; decide
  refine (listView hW (P := fun o xs => o = .inl none ∧ xs = []) (fun w' hL _ => cto_Jx4a65c_clear_da8c8 l E _ _ _ ⟨t, rfl, trivial, wL w t, hL, fun w1 h1 => ⟨_, ⟨rfl, rfl⟩, h1⟩⟩) (fun v hv => by rw [List.mem_singleton.mp hv]; exact hlt) (fun o xs hp => ⟨(by rw [hp.2]; intro q hq; cases hq), fun v hv => by rw [hp.1] at hv; cases hv⟩)).mono (fun o w1 h1 => ?_)
  obtain ⟨xs, ⟨rfl, rfl⟩, rfl⟩ := h1
  exact hq
def sp_Jx4a65c_init_da8c8 : CSp := fun as w K => ∃ (t : Nat), as = [.ref t] ∧ (LC w ∧ wT w t = 1 ∧ wL w t = [] ∧ wI w 2 t = 0) ∧ K (.inl none) (sL (sT w t 40) t [])
theorem sq_Jx4a65c_init_da8c8 {w : AW} {K : AO → AW → Prop} {t : Nat} : sp_Jx4a65c_init_da8c8 [.ref t] w K = ((LC w ∧ wT w t = 1 ∧ wL w t = [] ∧ wI w 2 t = 0) ∧ K (.inl none) (sL (sT w t 40) t [])) := propext ⟨fun h => by obtain ⟨_, h, hp⟩ := h; cases h; exact hp, fun hp => ⟨_, rfl, hp⟩⟩
theorem ct_Jx4a65c_init_da8c8 (l : Launch) (E : AE) : ∀ (as : List Value) (w : AW) (Q : AO → AW → Prop), sp_Jx4a65c_init_da8c8 as w Q → MA l E yJx4a65c_init_da8c8 cJx4a65c_init_da8c8 1 (none) 3 60 0 0 as w Q := by
  intro as w Q h
  obtain ⟨t, has, h⟩ := h
  subst has
  obtain ⟨⟨⟨h17, h18, h41, h42⟩, hT, hL, hI⟩, hq⟩ := h
  refine MA.view (fun ad H hC hlt => ⟨ad, w, fun o w1 => o = .inl none ∧ w1 = sR (sI w 0 t 0) 1 t (some 17), cto_Jx4a65c_init_da8c8 l E _ _ _ ⟨t, rfl, ⟨hT, h17⟩, rfl, rfl⟩, hC, fun v hv => ⟨rfl, fun i hi => by rw [List.mem_singleton.mp hv] at hi; cases hi; omega⟩, fun o w1 ad1 H1 hQ hC1 hext _ => ?_⟩)
  obtain ⟨rfl, rfl⟩ := hQ
  have hcl := Conc.close (Y := 17) (xs := []) hC hC1 (Or.inr ⟨hT, hL⟩) h41 h42 ((agr.sI w t 0 0).tr (agr.sR _ t 1 _)) hT (by rw [wR_sR, if_pos rfl, if_pos rfl]) (by rw [wI_sR, wI_sI, if_neg (by decide), hI]; rfl) (fun q hq => by cases hq) (Or.inl ⟨rfl, rfl, h17, hlt⟩)
  refine ⟨_, _, hq, hcl, fun i hi => ⟨?_, (hext i hi).2⟩, fun v hv => by cases hv⟩
  rw [wT_sL, wT_sT]
  by_cases h : i = t
  · rw [if_pos h]; decide
  · rw [if_neg h]; exact hi
