theorem slF_mem {b : Int32} : ∀ {N x : Nat}, x ∈ slF b N → x < N
  | 0, _, h => absurd h List.not_mem_nil
  | N + 1, x, h => by
    rw [slF] at h
    split at h
    · rcases List.mem_append.mp h with q | q
      · have := slF_mem q; omega
      · rw [List.mem_singleton] at q; omega
    · have := slF_mem h; omega
theorem HS.irr {u w : AW} (g : HS u w) : IRR u w := ⟨g.1, g.2.1, g.2.2.1, g.2.2.2.1, g.2.2.2.2.1, fun k x hk => g.2.2.2.2.2.2.1 k x (fun z => hk (by
  simp only [List.mem_cons, List.not_mem_nil, or_false] at *; omega)), fun t ht => g.2.2.2.2.2.2.2 t (fun z => ht (by
  simp only [List.mem_cons, List.not_mem_nil, or_false] at *; omega))⟩
theorem HRS.irr {u w : AW} (g : HRS u w) : IRR u w := ⟨g.1, g.2.1, g.2.2.1, g.2.2.2.1, g.2.2.2.2.1, fun k x hk => g.2.2.2.2.2.2.1 k x (fun z => hk (by
  simp only [List.mem_cons, List.not_mem_nil, or_false] at *; omega)), fun t ht => g.2.2.2.2.2.2.2 t (fun z => ht (by
  simp only [List.mem_cons, List.not_mem_nil, or_false] at *; omega))⟩
theorem irr_out (u : AW) (y : Int64) : IRR (sJ u 222 0 y) u := ⟨rfl, rfl, rfl, rfl, rfl, fun _ _ _ => rfl, fun _ _ => rfl⟩
theorem irr_thr (u : AW) (y : Int32) : IRR (sI u 768 100 y) u := ⟨rfl, rfl, rfl, rfl, rfl, fun k x hk => by
  rw [wI_sI, if_neg (fun z => hk (by rw [z]; decide))], fun _ _ => rfl⟩
theorem HRS.thr {u w : AW} (g : HRS u w) : wI u 768 100 = wI w 768 100 := g.2.2.2.2.2.2.1 768 100 (by decide)
/-- the best order: class's table and reference's search -/
theorem arr_eq {n : Nat} {w u v : AW} {b : Int32} {l : List Nat} (h : Rel n w) (hl : l = slF b (arN w)) (h0 : l ≠ []) (h7 : l.length ≤ 7) (g : ARR w u l) (hv : IRR v u) : (1000000 ≤ hbS l.length (wA u 216) (wA u 217) (wA u 218) → (foR v l).1 = -1) ∧ (¬ 1000000 ≤ hbS l.length (wA u 216) (wA u 217) (wA u 218) → (foR v l).1 = hbS l.length (wA u 216) (wA u 217) (wA u 218) ∧ ¬ hbS l.length (wA u 216) (wA u 217) (wA u 218) = -1 ∧ ∀ k, k < l.length → ((foR v l).2[k]?).getD 0 = hbB l.length (wA u 216) (wA u 217) (wA u 218) k) := by
  obtain ⟨g1, g2, g3⟩ := g
  have hw := hv.trans g1.irr
  have hR := h.cg hw
  have hm := (ci_works h.ci).2.2
  have hN : arN w ≤ ct w 201 := by unfold arN; split <;> omega
  have hin : ∀ i, i < l.length → ge l i < ct w 201 := fun i hi => by
    unfold ge
    rw [List.getElem?_eq_getElem hi, Option.getD_some]
    have q := List.getElem_mem hi
    have q2 : l[i] ∈ slF b (arN w) := by rw [← hl]; exact q
    have := slF_mem q2
    omega
  have ctv : ct v 201 = ct w 201 := by unfold ct; rw [hw.2.2.2.1]
  have hI : ∀ k x, k ∉ [263, 264, 768, 799, 800, 801, 823, 824] → wI v k x = wI w k x := hw.2.2.2.2.2.1
  have h0' : 0 < l.length := List.length_pos_iff.mpr h0
  let H : Nat → Nat := fun i => if i < l.length then (wA u 216 i).toNatClampNeg else 0
  have hz : ∀ i, i < l.length → ∃ z, z ≤ 500 ∧ wA u 216 i = nI z := fun i hi => by
    obtain ⟨z, z1, z2⟩ := h.z _ (hin i hi)
    exact ⟨z, z1, by rw [(g2.2 i hi).2.1, z2]⟩
  have hH : ∀ i, H i ≤ 500 := fun i => by
    show (if i < l.length then (wA u 216 i).toNatClampNeg else 0) ≤ 500
    split
    · rename_i hi
      obtain ⟨z, z1, z2⟩ := hz i hi
      rw [z2, nI_clamp (by omega)]; exact z1
    · omega
  have hh : ∀ i, i < l.length → wA u 216 i = nI (H i) := fun i hi => by
    obtain ⟨z, z1, z2⟩ := hz i hi
    show _ = nI (if i < l.length then (wA u 216 i).toNatClampNeg else 0)
    rw [if_pos hi, z2, nI_clamp (by omega)]
  have hr : ∀ i, i < l.length → wA v 107 (ge l i) = wA u 216 i := fun i hi => by
    rw [(g2.2 i hi).2.1, (hR.wk _ (by rw [ctv]; exact hin i hi)).2.2.1, hI _ _ (by decide)]
  have hc : ∀ i, i < l.length → wA v 109 (ge l i) = wA u 217 i := fun i hi => by
    rw [(g2.2 i hi).2.2, (hR.wk _ (by rw [ctv]; exact hin i hi)).2.2.2.2.1, hI _ _ (by decide)]
  have ha : APR l.length (wA u 218) (oAp v (ge l)) := fun x hx => by
    obtain ⟨m, m1, m2, m3⟩ := g3 x hx
    refine ⟨m, m1, m2, fun y hy => ?_⟩
    have e : oAp v (ge l) x y = cApart w (ge l x) (ge l y) := by
      unfold oAp
      rw [apart_eq hR.ci hR.c hR.wk hR.l (by rw [ctv]; exact hin x hx) (by rw [ctv]; exact hin y hy)]
      unfold cApart
      rw [cNames_ss hw.ss (by decide) (by decide) (by decide) (by decide) (by decide), cNames_ss hw.ss (by decide) (by decide) (by decide) (by decide) (by decide)]
    rw [e]
    exact m3 y hy
  have eo := order_eq (w := v) h0' h7 hH hh hr hc ha
  obtain ⟨b1, b2⟩ := hb_best (m := l.length) h0' h7 hH hh ha (c := wA u 217)
  rw [eo]
  cases hB : Bst l.length (mayC l.length (wA u 217) (wA u 218)) H l.length [] with
  | none =>
    exact ⟨fun _ => rfl, fun z => absurd (b1 hB) z⟩
  | some x =>
    obtain ⟨c1, c2, c3⟩ := b2 x hB
    refine ⟨fun z => ?_, fun _ => ⟨c1.symm, ?_, fun k hk => ?_⟩⟩
    · rw [c1] at z
      exact absurd z (nI_ge (a := x.1) (b := 1000000) (by omega) (by decide))
    · rw [c1]; exact nI_nm1 (by omega)
    · rw [c3 k hk]; rfl

theorem pr_step {n : Nat} {w : AW} (h : Rel n w) (hn : n < 512) (p0 p1 : Int32) : sp_X11_step [.ref 200, .int p0, .int p1] w (PRt ["java/util/NoSuchElementException"] sp_X12_step [.int p0, .int p1] n) := by
  have e0 : wI w 787 100 = nI (ct w 202) := h.c.2.1
  have e1 : wI w 770 100 = nI (ct w 201) := h.c.1
  have hm := (ci_rooms h.ci).2.2
  have hmw := (ci_works h.ci).2.2
  obtain ⟨ar1, ar2⟩ := are_iff h.ci p1
  have hN : arN w ≤ 31 := by unfold arN; split <;> omega
  have hNw : arN w ≤ ct w 201 := by unfold arN; split <;> omega
  rw [sq_X11_step]
  refine ⟨h.ci, fun hc => ?_, fun hc => ?_⟩
  · refine ⟨(by first | exact T222 | exact hR.o | exact h.o), 1, 0, OC.ex (by decide) (by decide) rfl, ?_⟩
    rw [show oJ 1 0 w = w from rfl, sq_X12_step, e0, e1]
    rw [ar1] at hc
    rw [ar2]
    exact ⟨⟨h.ri, h.rb⟩, fun _ => ⟨0, rfl, rfl, fun z => absurd z (by decide), h.up.thr 1⟩, fun z => absurd z hc⟩
  · have hb := ar1.mp hc.2
    have hr := lt_ct hc.1 (by omega)
    obtain ⟨s1, s2, s3⟩ := se_sl hb hN
    have e4 : wA w 122 p0.toNatClampNeg = wI w 513 (1200 + p0.toNatClampNeg) := (h.r _ hr).2.1
    obtain ⟨w1, w2⟩ := sl_aw (w := w) p1 (f := wA w 106) (arN w) (fun k hk => (h.wk k (by omega)).2.1)
    refine ⟨fun hz => ?_, fun hz hl u hu => ?_, fun hz hl u hu => ?_⟩
    · refine ⟨(by first | exact T222 | exact hR.o | exact h.o), 0, _, OC.ok, ?_⟩
      rw [show oJ 0 (-1) w = sJ w 222 0 _ from rfl, sq_X12_step]
      simp only [wI_sJ, wA_sJ]
      rw [e0, e1, ar2]
      refine ⟨⟨h.ri, h.rb⟩, fun z => absurd ⟨hc.1, hb⟩ z, fun _ => ⟨fun _ u hu => ?_, fun l hl => ⟨fun _ u hu => ?_, fun z => ?_⟩⟩⟩
      · exact ⟨_, rfl, hu.thr, fun _ => rfl, h.up.cg (hu.irr.trans ((irr_thr _ _).trans (irr_out _ _)))⟩
      · exact ⟨_, rfl, hu.thr, fun _ => rfl, h.up.cg (hu.irr.trans ((irr_thr _ _).trans (irr_out _ _)))⟩
      · exfalso
        by_cases h7 : 7 < bcI p1
        · rw [s1 h7] at hl; cases hl
        · have hb0 : p1 = 0 := hz.resolve_right h7
          subst hb0
          have : seR 0 31 0 [] = some [] := by decide +kernel
          rw [this] at hl
          exact z (Or.inl (Option.some.inj hl).symm)
    · have hz7 : ¬ 7 < bcI p1 := fun z => hz (Or.inr z)
      have hne : slF p1 (arN w) ≠ [] := sl_ne h.ci hc.2 (fun z => hz (Or.inl z))
      have hI := hu.irr.2.2.2.2.2.1
      have hA := hu.irr.2.2.2.2.2.2
      have hR := h.cg hu.irr
      refine ⟨(by first | exact T222 | exact hR.o | exact h.o), 0, _, OC.ok, ?_⟩
      rw [show oJ 0 (-1) u = sJ u 222 0 _ from rfl, sq_X12_step]
      simp only [wI_sJ, wA_sJ]
      rw [hI 787 _ (by decide), hI 770 _ (by decide), hA 122 (by decide), hA 106 (by decide), e0, e1, ar2, s2 hz7]
      refine ⟨⟨hR.ri, hR.rb⟩, fun z => absurd ⟨hc.1, hb⟩ z, fun _ => ⟨fun z => absurd z (by simp), fun l hl' => ⟨fun _ v hv => ?_, fun z => ?_⟩⟩⟩
      · exact ⟨_, rfl, hv.thr, fun _ => rfl, hR.up.cg (hv.irr.trans ((irr_thr _ _).trans (irr_out _ _)))⟩
      · exfalso
        have e := Option.some.inj hl'
        subst e
        exact z (Or.inr (by rw [← w2 hne, e4]; exact hl))
    · have hz7 : ¬ 7 < bcI p1 := fun z => hz (Or.inr z)
      have hne : slF p1 (arN w) ≠ [] := sl_ne h.ci hc.2 (fun z => hz (Or.inl z))
      have hu1 := hu.1
      have hI := hu1.irr.2.2.2.2.2.1
      have hA := hu1.irr.2.2.2.2.2.2
      have hR := h.cg hu1.irr
      have go : ∀ y : Int32, ((foR (sI (sJ u 222 0 y.toInt64) 768 100 0) (slF p1 (arN w))).1 = y) → PRt ["java/util/NoSuchElementException"] sp_X12_step [.int p0, .int p1] n (.inl (some (.int y))) u := fun y hy => by
        refine ⟨(by first | exact T222 | exact hR.o | exact h.o), 0, _, OC.ok, ?_⟩
        rw [show oJ 0 y u = sJ u 222 0 _ from rfl, sq_X12_step]
        simp only [wI_sJ, wA_sJ]
        rw [hI 787 _ (by decide), hI 770 _ (by decide), hA 122 (by decide), hA 106 (by decide), e0, e1, ar2, s2 hz7]
        refine ⟨⟨hR.ri, hR.rb⟩, fun z => absurd ⟨hc.1, hb⟩ z, fun _ => ⟨fun z => absurd z (by simp), fun l hl' => ?_⟩⟩
        have e := Option.some.inj hl'
        subst e
        refine ⟨fun z => ?_, fun _ v hv => ?_⟩
        · exfalso
          rcases z with z | z
          · exact hne z
          · rw [← w2 hne, e4] at z; exact hl z
        · exact ⟨_, rfl, hv.1.thr, fun _ => hy, hR.up.cg (hv.1.irr.trans ((irr_thr _ _).trans (irr_out _ _)))⟩
      refine ⟨fun hS => go _ ?_, fun hS hrow => go _ ?_⟩
      · exact (arr_eq h rfl hne (s3 hz7) hu ((irr_thr _ _).trans (irr_out _ _))).1 hS
      · exact ((arr_eq h rfl hne (s3 hz7) hu ((irr_thr _ _).trans (irr_out _ _))).2 hS).1

theorem pr_hanging {n : Nat} {w : AW} (h : Rel n w) (hn : n < 512) (p0 p1 p2 : Int32) : sp_X11_hanging [.ref 200, .int p0, .int p1, .int p2] w (PRt ["java/util/NoSuchElementException"] sp_X12_hanging [.int p0, .int p1, .int p2] n) := by
  have e0 : wI w 787 100 = nI (ct w 202) := h.c.2.1
  have e1 : wI w 770 100 = nI (ct w 201) := h.c.1
  have hm := (ci_rooms h.ci).2.2
  have hmw := (ci_works h.ci).2.2
  obtain ⟨ar1, ar2⟩ := are_iff h.ci p1
  have hN : arN w ≤ 31 := by unfold arN; split <;> omega
  have hNw : arN w ≤ ct w 201 := by unfold arN; split <;> omega
  rw [sq_X11_hanging]
  refine ⟨h.ci, fun hc => ?_, fun hc => ?_⟩
  · refine ⟨(by first | exact T222 | exact hR.o | exact h.o), 1, 0, OC.ex (by decide) (by decide) rfl, ?_⟩
    rw [show oJ 1 0 w = w from rfl, sq_X12_hanging, e0, e1]
    rw [ar1] at hc
    rw [ar2]
    exact ⟨⟨h.ri, h.rb⟩, fun _ => ⟨0, rfl, rfl, fun z => absurd z (by decide), h.up.thr 1⟩, fun z => absurd z hc⟩
  · have hb := ar1.mp hc.2
    have hr := lt_ct hc.1 (by omega)
    obtain ⟨s1, s2, s3⟩ := se_sl hb hN
    have e4 : wA w 122 p0.toNatClampNeg = wI w 513 (1200 + p0.toNatClampNeg) := (h.r _ hr).2.1
    obtain ⟨w1, w2⟩ := sl_aw (w := w) p1 (f := wA w 106) (arN w) (fun k hk => (h.wk k (by omega)).2.1)
    refine ⟨fun hz => ?_, fun hz hl u hu => ?_, fun hz hl u hu => ?_⟩
    · refine ⟨(by first | exact T222 | exact hR.o | exact h.o), 0, _, OC.ok, ?_⟩
      rw [show oJ 0 (-1) w = sJ w 222 0 _ from rfl, sq_X12_hanging]
      simp only [wI_sJ, wA_sJ]
      rw [e0, e1, ar2]
      refine ⟨⟨h.ri, h.rb⟩, fun z => absurd ⟨hc.1, hb⟩ z, fun _ => ⟨fun _ u hu => ?_, fun l hl => ⟨fun _ u hu => ?_, fun z => ?_⟩⟩⟩
      · exact ⟨_, rfl, hu.thr, fun _ => rfl, h.up.cg (hu.irr.trans ((irr_thr _ _).trans (irr_out _ _)))⟩
      · exact ⟨_, rfl, hu.thr, fun _ => rfl, h.up.cg (hu.irr.trans ((irr_thr _ _).trans (irr_out _ _)))⟩
      · exfalso
        by_cases h7 : 7 < bcI p1
        · rw [s1 h7] at hl; cases hl
        · have hb0 : p1 = 0 := hz.resolve_right h7
          subst hb0
          have : seR 0 31 0 [] = some [] := by decide +kernel
          rw [this] at hl
          exact z (Or.inl (Option.some.inj hl).symm)
    · have hz7 : ¬ 7 < bcI p1 := fun z => hz (Or.inr z)
      have hne : slF p1 (arN w) ≠ [] := sl_ne h.ci hc.2 (fun z => hz (Or.inl z))
      have hI := hu.irr.2.2.2.2.2.1
      have hA := hu.irr.2.2.2.2.2.2
      have hR := h.cg hu.irr
      refine ⟨(by first | exact T222 | exact hR.o | exact h.o), 0, _, OC.ok, ?_⟩
      rw [show oJ 0 (-1) u = sJ u 222 0 _ from rfl, sq_X12_hanging]
      simp only [wI_sJ, wA_sJ]
      rw [hI 787 _ (by decide), hI 770 _ (by decide), hA 122 (by decide), hA 106 (by decide), e0, e1, ar2, s2 hz7]
      refine ⟨⟨hR.ri, hR.rb⟩, fun z => absurd ⟨hc.1, hb⟩ z, fun _ => ⟨fun z => absurd z (by simp), fun l hl' => ⟨fun _ v hv => ?_, fun z => ?_⟩⟩⟩
      · exact ⟨_, rfl, hv.thr, fun _ => rfl, hR.up.cg (hv.irr.trans ((irr_thr _ _).trans (irr_out _ _)))⟩
      · exfalso
        have e := Option.some.inj hl'
        subst e
        exact z (Or.inr (by rw [← w2 hne, e4]; exact hl))
    · have hz7 : ¬ 7 < bcI p1 := fun z => hz (Or.inr z)
      have hne : slF p1 (arN w) ≠ [] := sl_ne h.ci hc.2 (fun z => hz (Or.inl z))
      have hu1 := hu.1
      have hI := hu1.irr.2.2.2.2.2.1
      have hA := hu1.irr.2.2.2.2.2.2
      have hR := h.cg hu1.irr
      have go : ∀ y : Int32, (((foR (sI (sJ u 222 0 y.toInt64) 768 100 0) (slF p1 (arN w))).1 = -1 ∨ ¬ (0 ≤ p2 ∧ p2 < nI (slF p1 (arN w)).length)) → y = -1) → (¬ (foR (sI (sJ u 222 0 y.toInt64) 768 100 0) (slF p1 (arN w))).1 = -1 ∧ (0 ≤ p2 ∧ p2 < nI (slF p1 (arN w)).length) → nI (ge (slF p1 (arN w)) (((foR (sI (sJ u 222 0 y.toInt64) 768 100 0) (slF p1 (arN w))).2[p2.toNatClampNeg]?).getD 0)) = y) → PRt ["java/util/NoSuchElementException"] sp_X12_hanging [.int p0, .int p1, .int p2] n (.inl (some (.int y))) u := fun y hy1 hy2 => by
        refine ⟨(by first | exact T222 | exact hR.o | exact h.o), 0, _, OC.ok, ?_⟩
        rw [show oJ 0 y u = sJ u 222 0 _ from rfl, sq_X12_hanging]
        simp only [wI_sJ, wA_sJ]
        rw [hI 787 _ (by decide), hI 770 _ (by decide), hA 122 (by decide), hA 106 (by decide), e0, e1, ar2, s2 hz7]
        refine ⟨⟨hR.ri, hR.rb⟩, fun z => absurd ⟨hc.1, hb⟩ z, fun _ => ⟨fun z => absurd z (by simp), fun l hl' => ?_⟩⟩
        have e := Option.some.inj hl'
        subst e
        refine ⟨fun z => ?_, fun _ v hv => ⟨fun z => ?_, fun z => ?_⟩⟩
        · exfalso
          rcases z with z | z
          · exact hne z
          · rw [← w2 hne, e4] at z; exact hl z
        · exact ⟨_, rfl, hv.1.thr, fun _ => (hy1 z).symm, hR.up.cg (hv.1.irr.trans ((irr_thr _ _).trans (irr_out _ _)))⟩
        · exact ⟨_, rfl, hv.1.thr, fun _ => hy2 z, hR.up.cg (hv.1.irr.trans ((irr_thr _ _).trans (irr_out _ _)))⟩
      have AE := fun y : Int32 => arr_eq h rfl hne (s3 hz7) hu ((irr_thr (sJ u 222 0 y.toInt64) 0).trans (irr_out _ _))
      refine ⟨fun hS => go _ (fun _ => rfl) (fun z => absurd ((AE _).1 hS) z.1), fun hS hrow => ⟨fun z => go _ (fun _ => rfl) (fun y => ?_), fun z => go _ (fun y => ?_) (fun y => ?_)⟩⟩
      · exfalso
        obtain ⟨a1, a2, -⟩ := (AE (-1)).2 hS
        rcases z with z | z
        · exact a2 z
        · exact z y.2
      · exfalso
        obtain ⟨a1, a2, -⟩ := (AE _).2 hS
        rcases y with y | y
        · rw [a1] at y; exact z.1 y
        · exact y z.2
      · obtain ⟨-, -, a3⟩ := (AE _).2 hS
        have h7 := s3 hz7
        rw [a3 _ (lt_ct z.2 (by omega))]

