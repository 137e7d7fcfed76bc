theorem Rel.wt {n t : Nat} {w u : AW} (h : Rel n w) (hT : wT u = wT w) (hR : wR u = wR w) (hN : wN u = wN w) (hL : wL u = wL w) (hI : ∀ k x, k ∉ [67, 520, 521, 522, 649, 716, 768, 769, 816] → wI u k x = wI w k x) (hA : ∀ t, t ∉ [112, 127, 150, 151, 152, 212, 213, 214] → wA u t = wA w t) (ht : t ≤ 200000) (h716 : wI u 716 200 = nI t) (h769 : wI u 769 100 = nI t) (hl : ∀ k, k < ct w 201 → wA u 112 k = wI u 649 (1000 + k)) (hun : ∀ r, r < ct w 202 → wA u 127 r = wI u 522 (1200 + r)) (hun2 : ∀ r, ct w 202 ≤ r → wA u 127 r = wA w 127 r) (hb : BKE u u) (hc : ∃ c, c ≤ 400 * t ∧ wI u 67 207 = nI c) : Rel (n + 1) u := by
  have hA5 : ∀ q, wA u (1500 + q) = wA w (1500 + q) := fun q => hA _ (by simp only [List.mem_cons, List.not_mem_nil, or_false, not_or]; omega)
  have hA6 : ∀ q, wA u (1600 + q) = wA w (1600 + q) := fun q => hA _ (by simp only [List.mem_cons, List.not_mem_nil, or_false, not_or]; omega)
  refine ⟨?_, ?_, ?_, ?_, ?_, ?_, ?_, ?_, ?_, ?_, ?_, ?_, ?_, ?_, ?_, ?_, ?_, ?_, ?_, ?_, ?_⟩
  · have q := h.ci
    have i1 := fun x => hI 640 x (by decide)
    have i2 := fun x => hI 641 x (by decide)
    have i3 := fun x => hI 384 x (by decide)
    have i4 := fun x => hI 519 x (by decide)
    unfold CIv OF LSt WK RMp LNp CRp SH BK HG LW LC KC isWk CLp kdN ct at *
    simp only [hT, hR, hN, hL, i1, i2, i3, i4]
    exact q
  · have q := h.ri; unfold RI at *; rw [hT, hR, hN]; exact q
  · obtain ⟨q1, q2, q3, q4, q5, q6, q7, q8, q9, q10, q11, q12, q13, q14, q15⟩ := h.rb
    unfold RB
    rw [h769]
    simp (disch := decide) only [hI, hA]
    exact ⟨q1, q2, q3, q4, q5, q6, q7, ⟨t, ht, rfl⟩, q9, q10, q11, q12, q13, q14, q15⟩
  · obtain ⟨q1, q2, q3, q4, q5, q6, q7⟩ := h.c
    unfold RLc ct at *
    rw [h716, h769]
    simp (disch := decide) only [hI, hL]
    exact ⟨q1, q2, q3, q4, q5, trivial, q7⟩
  · intro k hk
    have hk : k < ct w 201 := by unfold ct at *; rw [hL] at hk; exact hk
    obtain ⟨q1, q2, q3, q4, q5, q6, q7, q8⟩ := h.wk k hk
    have e := hl k hk
    simp (disch := decide) only [hI, hA]
    exact ⟨q1, q2, q3, q4, q5, q6, q7, e⟩
  · have q := h.l; unfold RLl kdN ct at *; simp (disch := decide) only [hI, hA, hL, hR]; exact q
  · intro r hr
    have hr : r < ct w 202 := by unfold ct at *; rw [hL] at hr; exact hr
    obtain ⟨q1, q2, q3, q4, q5, q6, q7, q8⟩ := h.r r hr
    have e := hun r hr
    unfold elN ct at *
    simp (disch := decide) only [hI, hA, hL]
    exact ⟨q1, q2, q3, q4, q5, e, q7, q8⟩
  · have q := h.k; unfold RLk elN ct at *; simp (disch := decide) only [hI, hA, hL]; exact q
  · have q := h.u; unfold RLu at *; simp (disch := decide) only [hA]; exact q
  · have q := h.s; unfold RLs ct at *; simp (disch := decide) only [hA, hL, hA5, hA6]; exact q
  · have q := h.a; unfold RLa ct at *; simp (disch := decide) only [hI, hA, hL, hR]; exact q
  · have q := h.g; unfold RLg ct at *; simp (disch := decide) only [hI, hA, hL, hR]; exact q
  · have q := h.d; unfold RLd ct at *; simp (disch := decide) only [hI, hA, hL, hR]; exact q
  · have q := h.n
    have e : lnV u = lnV w := by funext z; unfold lnV; simp (disch := decide) only [hI]
    unfold RLn ct at *; simp (disch := decide) only [hI, hA, hL, hR, e]; exact q
  · obtain ⟨⟨k, hk, e⟩, q2, -⟩ := h.m
    unfold RLm ct at *
    rw [h716]
    simp (disch := decide) only [hI, hL]
    obtain ⟨c, hc1, hc2⟩ := hc
    exact ⟨⟨k, by omega, e⟩, fun m hm => Nat.le_succ_of_le (q2 m hm), t, c, ht, hc1, rfl, hc2⟩
  · have q := h.t; unfold RLt at *; simp (disch := decide) only [hI, hA]; exact q
  · exact hb
  · have q := h.f; unfold RLf ct at *; simp (disch := decide) only [hI, hT, hL]; exact q
  · obtain ⟨q1, q2, q3⟩ := h.v
    refine ⟨fun r hr hr2 => ?_, ?_⟩
    · have hr : ct w 202 ≤ r := by unfold ct at *; rw [hL] at hr; exact hr
      rw [hA 128 (by decide), hun2 r hr]; exact q1 r hr hr2
    · unfold ct at *; simp (disch := decide) only [hA, hL]; exact ⟨q2, q3⟩
  · have q := h.z; unfold RLz ct at *; simp (disch := decide) only [hI, hA, hL]; exact q
  · have q := h.o; unfold RLo at *; rw [hT, hN]; exact q
/-- behind so many hours -/
theorem wt_rel {n t i : Nat} {w u0 : AW} {y : Int64} (h : Rel n w) (hc : CS w u0) (hti : t + i ≤ 200000) (hd : DD w u0 (wtR (sJ u0 222 0 y) i) (t + i)) (hb : ∃ c, c ≤ 400 * (t + i) ∧ wI u0 67 207 = nI c) : Rel (n + 1) (wtR (sJ u0 222 0 y) i) ∧ wI (wtR (sJ u0 222 0 y) i) 768 100 = 0 := by
  have st : ∀ i, (wT (wtR (sJ u0 222 0 y) i) = wT u0 ∧ wR (wtR (sJ u0 222 0 y) i) = wR u0 ∧ wN (wtR (sJ u0 222 0 y) i) = wN u0 ∧ wL (wtR (sJ u0 222 0 y) i) = wL u0) ∧ (∀ k x, k ∉ [768, 769, 816] → wI (wtR (sJ u0 222 0 y) i) k x = wI u0 k x) ∧ (∀ t, t ∉ [112, 127, 150, 151, 152] → wA (wtR (sJ u0 222 0 y) i) t = wA u0 t) ∧ wI (wtR (sJ u0 222 0 y) i) 768 100 = 0 := fun i => by
    induction i with
    | zero =>
      refine ⟨⟨rfl, rfl, rfl, rfl⟩, fun k x hk => ?_, fun _ _ => rfl, rfl⟩
      show wI (sI (sJ u0 222 0 y) 768 100 0) k x = _
      rw [wI_sI, if_neg (fun z => hk (by rw [z]; decide))]; rfl
    | succ i ih =>
      obtain ⟨⟨a1, a2, a3, a4⟩, b, d, e⟩ := ih
      have p := hrB_pr (wtR (sJ u0 222 0 y) i)
      rw [wtR]
      unfold hrW
      refine ⟨⟨p.1.trans a1, p.2.1.trans a2, p.2.2.1.trans a3, p.2.2.2.1.trans a4⟩, fun k x hk => ?_, fun t ht => ?_, ?_⟩
      · have hk2 := hk
        simp only [List.mem_cons, List.not_mem_nil, or_false, not_or] at hk2
        rw [wI_sI, if_neg hk2.2.1, p.2.2.2.2.2.2.1 k x hk2.2.2]; exact b k x hk
      · rw [wA_sI, p.2.2.2.2.2.2.2 t ht]; exact d t ht
      · rw [wI_sI, if_neg (by decide), p.2.2.2.2.2.2.1 _ _ (by decide)]; exact e
  obtain ⟨⟨a1, a2, a3, a4⟩, b, d, e⟩ := st i
  obtain ⟨cs, vs, hU, hV, hl, hbk, hun, hun2⟩ := hd
  refine ⟨?_, e⟩
  revert a1 a2 a3 a4 b d vs hV hl hbk hun hun2
  generalize wtR (sJ u0 222 0 y) i = U
  intro a1 a2 a3 a4 b d vs hV hl hbk hun hun2
  refine h.wt (t := t + i) (a1.trans hc.1) (a2.trans hc.2.1) (a3.trans hc.2.2.1) (a4.trans hc.2.2.2.1) (fun k x hk => ?_) (fun t ht => ?_) hti ?_ hV (fun k hk => ?_) (fun r hr => ?_) hun2 ?_ ?_
  · simp only [List.mem_cons, List.not_mem_nil, or_false, not_or] at hk
    rw [b k x (by simp only [List.mem_cons, List.not_mem_nil, or_false, not_or]; exact ⟨hk.2.2.2.2.2.2.1, hk.2.2.2.2.2.2.2.1, hk.2.2.2.2.2.2.2.2⟩)]
    exact hc.2.2.2.2.1 k x (by simp only [List.mem_cons, List.not_mem_nil, or_false, not_or]; exact ⟨hk.1, hk.2.1, hk.2.2.1, hk.2.2.2.1, hk.2.2.2.2.1, hk.2.2.2.2.2.1⟩)
  · simp only [List.mem_cons, List.not_mem_nil, or_false, not_or] at ht
    rw [d t (by simp only [List.mem_cons, List.not_mem_nil, or_false, not_or]; exact ⟨ht.1, ht.2.1, ht.2.2.1, ht.2.2.2.1, ht.2.2.2.2.1⟩)]
    exact hc.2.2.2.2.2 t (by simp only [List.mem_cons, List.not_mem_nil, or_false, not_or]; exact ⟨ht.2.2.2.2.2.1, ht.2.2.2.2.2.2.1, ht.2.2.2.2.2.2.2⟩)
  · rw [b 716 200 (by decide)]; exact hU
  · rw [b 649 _ (by decide)]; exact hl k hk
  · rw [b 522 _ (by decide)]; exact hun r hr
  · obtain ⟨z1, z2⟩ := hbk
    unfold BKE
    rw [b 67 207 (by decide), d 212 (by decide), d 213 (by decide), d 214 (by decide)]
    exact ⟨z1, z2⟩
  · rw [b 67 207 (by decide)]; exact hb
/-- the start of a wait -/
theorem dd_0 {n t : Nat} {w u1 u0 : AW} {y : Int64} (h : Rel n w) (hc : CS w u0) (ht : t ≤ 200000) (e7 : wI w 716 200 = nI t) (h1 : CS w u1) (h7 : wI u1 716 200 = nI t) (hI : ∀ k x, k ∉ [716] → wI u1 k x = wI w k x) (hA : wA u1 = wA w) : DD w u1 (sI (sJ u0 222 0 y) 768 100 0) t := by
  have nA : ∀ t, t ∉ [212, 213, 214] → wA (sI (sJ u0 222 0 y) 768 100 0) t = wA w t := fun t ht => hc.2.2.2.2.2 t ht
  have nI' : ∀ k, k ∉ [67, 520, 521, 522, 649, 716, 768] → wI (sI (sJ u0 222 0 y) 768 100 0) k 100 = wI w k 100 := fun k hk => by
    simp only [List.mem_cons, List.not_mem_nil, or_false, not_or] at hk
    rw [wI_sI, if_neg hk.2.2.2.2.2.2]
    exact hc.2.2.2.2.1 k 100 (by simp only [List.mem_cons, List.not_mem_nil, or_false, not_or]; exact ⟨hk.1, hk.2.1, hk.2.2.1, hk.2.2.2.1, hk.2.2.2.2.1, hk.2.2.2.2.2.1⟩)
  refine ⟨h1, ⟨fun t a b => ?_, fun k hk => ?_⟩, h7, ?_, fun x hx => ?_, ?_, fun r hr => ?_, fun r hr => ?_⟩
  · refine nA t (fun z => ?_)
    simp only [List.mem_cons, List.not_mem_nil, or_false] at z
    rcases z with rfl | rfl | rfl <;> exact absurd a (by decide)
  · refine nI' k (fun z => ?_)
    simp only [List.mem_cons, List.not_mem_nil, or_false] at hk z
    omega
  · rw [nI' 769 (by decide), h.c.2.2.2.2.2.1]; exact e7
  · rw [nA 112 (by decide), hI 649 _ (by decide)]; exact (h.wk x hx).2.2.2.2.2.2.2
  · unfold BKE
    rw [nI' 816 (by decide), nA 150 (by decide), nA 151 (by decide), nA 152 (by decide), hI 67 207 (by decide), hA]
    exact h.b
  · rw [nA 127 (by decide), hI 522 _ (by decide)]; exact (h.r r hr).2.2.2.2.2.1
  · rw [nA 127 (by decide)]
theorem wr_0 {n t : Nat} {w u0 : AW} {y : Int64} (h : Rel n w) (hc : CS w u0) (ht : t ≤ 200000) (e7 : wI w 716 200 = nI t) (hcc : ∃ c, c ≤ 400 * t ∧ wI w 67 207 = nI c) : ∃ t c, t ≤ 200000 ∧ c ≤ 100000000 ∧ WR (sJ u0 222 0 y) t c := by
  have nA : ∀ t, t ∉ [212, 213, 214] → wA (sJ u0 222 0 y) t = wA w t := fun t ht => hc.2.2.2.2.2 t ht
  have nI' : ∀ k, k ∉ [67, 520, 521, 522, 649, 716] → wI (sJ u0 222 0 y) k 100 = wI w k 100 := fun k hk => hc.2.2.2.2.1 k 100 hk
  obtain ⟨c, c1, c2⟩ := hcc
  refine ⟨t, c, ht, by omega, ?_, ?_, ?_, ⟨c, Nat.le_refl _, ?_⟩, fun m hm hp => ?_⟩
  · have q := h.ri
    unfold RI at *
    have t1 : wT (sJ u0 222 0 y) = wT w := hc.1
    have t2 : wR (sJ u0 222 0 y) = wR w := hc.2.1
    have t3 : wN (sJ u0 222 0 y) = wN w := hc.2.2.1
    rw [t1, t2, t3]; exact q
  · have q := h.rb
    unfold RB at *
    simp (disch := decide) only [nI', nA]; exact q
  · rw [nI' 769 (by decide), h.c.2.2.2.2.2.1]; exact e7
  · rw [nI' 816 (by decide), h.b.1]; exact c2
  · rw [nA 110 (by decide)] at hp
    rw [nA 111 (by decide)]
    have bd := h.ci.bd
    rcases Nat.lt_or_ge m (ct w 201) with z | z
    · have e := (h.wk m z).2.2.2.2.2.1
      rw [hp] at e
      rcases h.g.2 m z with ⟨r, hr, a, b, d⟩ | ⟨a, b⟩
      · rw [(h.wk m z).2.2.2.2.2.2.1, d]; exact vp_in_nI (by omega) (by decide)
      · exact absurd e.symm b
    · exact absurd hp (h.v.2.2 m z hm)

theorem pr_wait {n : Nat} {w : AW} (h : Rel n w) (hn : n < 512) (p0 : Int32) : sp_X11_wait [.ref 200, .int p0] w (PRt ["java/lang/IllegalArgumentException", "java/lang/IllegalStateException"] sp_X12_wait [.int p0] n) := by
  obtain ⟨t, c, ht, hcc, e7, e67⟩ := h.m.2.2
  have e9 : wI w 769 100 = nI t := h.c.2.2.2.2.2.1.trans e7
  have hwa : WA w t := ⟨h.ci, e7, c, hcc, e67⟩
  rw [sq_X11_wait]
  have hsum : ∀ i, i ≤ 1000 → ((200000 : Int32) < wI w 716 200 + nI i ↔ 200000 < t + i) := fun i hi => by
    rw [e7, nI_add, show (200000 : Int32) = nI 200000 from rfl, nI_ltI (by decide) (by omega)]
  have hle : ∀ i, i ≤ 1000 → (wI w 769 100 + nI i ≤ (200000 : Int32) ↔ t + i ≤ 200000) := fun i hi => by
    rw [e9, nI_add, show (200000 : Int32) = nI 200000 from rfl, nI_leI (by omega) (by decide)]
  refine ⟨⟨t, ht, hwa⟩, fun hc => ?_, fun hc => ?_, fun hc => ?_, fun hc => ?_⟩
  · refine ⟨(by first | exact T222 | exact hR.o | exact h.o), 1, 0, OC.ex (by decide) (by decide) rfl, ?_⟩
    rw [oJ_1, sq_X12_wait]
    exact ⟨wr_0 (y := 0) h (CS.refl w) ht e7 ⟨c, hcc, e67⟩, (fun _ => ⟨0, rfl, rfl, fun z => absurd z (by decide), h.up.thr 1⟩), fun a => absurd a.1 hc, fun a => absurd a.1 hc⟩
  · obtain ⟨i, hi, ei⟩ := in_le (n := 1000) hc.1 rfl
    rw [ei] at hc
    subst ei
    refine ⟨(by first | exact T222 | exact hR.o | exact h.o), 2, 0, OC.ex (by decide) (by decide) rfl, ?_⟩
    rw [oJ_2, sq_X12_wait]
    have hn : ¬ wI w 769 100 + nI i ≤ 200000 := fun z => by
      have a := (hle i hi).mp z
      have b := (hsum i hi).mp hc.2
      omega
    exact ⟨wr_0 (y := 0) h (CS.refl w) ht e7 ⟨c, hcc, e67⟩, fun a => absurd hc.1 a, (fun _ => ⟨0, rfl, rfl, fun z => absurd z (by decide), h.up.thr 2⟩), fun a => absurd a.2 hn⟩
  · obtain ⟨i, hi, ei⟩ := in_le (n := 1000) hc.1 rfl
    rw [ei] at hc
    subst ei
    have hti : t + i ≤ 200000 := by
      have a : ¬ 200000 < t + i := fun z => hc.2.1 ((hsum i hi).mpr z)
      omega
    have hq : ∀ r, r < ct w 202 → wL w (1300 + r) = [] := fun r hr => by
      have q := (anyF_false (ct w 202) 0).mp hc.2.2 r (Nat.zero_le _) (by omega)
      have q := of_decide_eq_false q
      exact Classical.not_not.mp q
    refine ⟨(by first | exact T222 | exact hR.o | exact h.o), 0, _, OC.ok, ?_⟩
    rw [oJ_0]
    have es : wI w 716 200 + nI i = nI (t + i) := by rw [e7, nI_add]
    rw [es]
    have hc0 : CS w (sI w 716 200 (nI (t + i))) := (CS.refl w).ht _
    have hd0 := dd_0 (u1 := sI w 716 200 (nI t)) (y := (nI (t + i)).toInt64) h hc0 ht e7 ((CS.refl w).ht _) rfl (fun k x hk => by rw [wI_sI, if_neg (fun z => hk (by rw [z]; decide))]) rfl
    have hd := qu_dd h hq hd0 i hti
    have hr := wt_rel (y := (nI (t + i)).toInt64) h hc0 hti hd ⟨c, by omega, e67⟩
    have w0 := wr_0 (y := (nI (t + i)).toInt64) h hc0 ht e7 ⟨c, hcc, e67⟩
    have e9' : wI (sJ (sI w 716 200 (nI (t + i))) 222 0 (nI (t + i)).toInt64) 769 100 = wI w 769 100 := rfl
    rw [sq_X12_wait, e9', nI_clamp (by omega)]
    refine ⟨w0, fun a => absurd hc.1 a, fun a => absurd ((hle i hi).mpr hti) a.2, fun _ => ⟨_, rfl, hr.2, fun _ => hd.2.2.2.1, hr.1⟩⟩
  · obtain ⟨i, hi, ei⟩ := in_le (n := 1000) hc.1 rfl
    rw [ei] at hc
    subst ei
    have hti : t + i ≤ 200000 := by
      have a : ¬ 200000 < t + i := fun z => hc.2.1 ((hsum i hi).mpr z)
      omega
    have ci : (nI i).toNatClampNeg = i := nI_clamp (by omega)
    rw [ci]
    have hc0 : CS w (waW w i) := by
      have q := wa_dd (U0 := sJ w 222 0 0) h (dd_0 h (CS.refl w) ht e7 (CS.refl w) e7 (fun _ _ _ => rfl) rfl) i hti
      exact q.1
    have T222 : RLo (waW w i) := by unfold RLo; rw [hc0.1, hc0.2.2.1]; exact h.o
    refine ⟨(by first | exact T222 | exact hR.o | exact h.o), 0, _, OC.ok, ?_⟩
    rw [oJ_0]
    have hwa2 := waW_wa hwa i
    have es := hwa2.2.1
    rw [es]
    have hd0 := dd_0 (u1 := w) (y := (nI (t + i)).toInt64) h hc0 ht e7 (CS.refl w) e7 (fun _ _ _ => rfl) rfl
    have hd := wa_dd h hd0 i hti
    have hr := wt_rel (y := (nI (t + i)).toInt64) h hc0 hti hd hwa2.2.2
    have w0 := wr_0 (y := (nI (t + i)).toInt64) h hc0 ht e7 ⟨c, hcc, e67⟩
    have e9' : wI (sJ (waW w i) 222 0 (nI (t + i)).toInt64) 769 100 = wI w 769 100 := hc0.2.2.2.2.1 769 100 (by decide)
    rw [sq_X12_wait, e9', ci]
    refine ⟨w0, fun a => absurd hc.1 a, fun a => absurd ((hle i hi).mpr hti) a.2, fun _ => ⟨_, rfl, hr.2, fun _ => hd.2.2.2.1, hr.1⟩⟩

