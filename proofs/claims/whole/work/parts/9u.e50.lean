theorem wJ_ugW (w : AW) (c : Nat) (x : Int32) : ∀ n, wJ (ugW w c x n) = wJ w
  | 0 => rfl
  | n + 1 => (show wJ (goW (ugW w c x n) (wA w 146 (4 * c + n)) 1 x) = wJ (ugW w c x n) from rfl).trans (wJ_ugW w c x n)
theorem wJ_wtR (w : AW) : ∀ n, wJ (wtR w n) = wJ w
  | 0 => rfl
  | n + 1 => (show wJ (hrW (wtR w n)) = wJ (hrB (wtR w n)) from rfl).trans ((hrB_pr (wtR w n)).2.2.2.2.2.1.trans (wJ_wtR w n))
theorem fj_work {as : List Value} {w : AW} {K : AO → AW → Prop} (h : sp_X12_work as w K) : wT w 100 = 13 ∧ sp_X12_work as w (fun ou v => K ou v ∧ wJ v = wJ w) := by
  obtain ⟨a, b, c, d, f, has, hp, hq⟩ := h
  refine ⟨hp.1.1, a, b, c, d, f, has, hp, ?_⟩
  obtain ⟨q0, q1, q2⟩ := hq
  exact ⟨fun z => ⟨q0 z, by simp only [wJ_sI, wJ_sA, goW]⟩, fun z => ⟨q1 z, by simp only [wJ_sI, wJ_sA, goW]⟩, fun z => ⟨q2 z, by simp only [wJ_sI, wJ_sA, goW]⟩⟩
theorem fj_told {as : List Value} {w : AW} {K : AO → AW → Prop} (h : sp_X12_told as w K) : wT w 100 = 13 ∧ sp_X12_told as w (fun ou v => K ou v ∧ wJ v = wJ w) := by
  obtain ⟨k, q, has, hp, hq⟩ := h
  refine ⟨hp.1.1, k, q, has, hp, ?_⟩
  obtain ⟨q0, q1, q2, q3, q4, q5, q6, q7, q8, q9, q10⟩ := hq
  exact ⟨fun z => ⟨q0 z, by simp only [wJ_sI, wJ_sA, goW]⟩, fun z => ⟨q1 z, by simp only [wJ_sI, wJ_sA, goW]⟩, fun z => ⟨q2 z, by simp only [wJ_sI, wJ_sA, goW]⟩, fun z => ⟨q3 z, by simp only [wJ_sI, wJ_sA, goW]⟩, fun z => ⟨q4 z, by simp only [wJ_sI, wJ_sA, goW]⟩, fun z => ⟨q5 z, by simp only [wJ_sI, wJ_sA, goW]⟩, fun z => ⟨q6 z, by simp only [wJ_sI, wJ_sA, goW]⟩, fun z => ⟨q7 z, by simp only [wJ_sI, wJ_sA, goW]⟩, fun z => ⟨q8 z, by simp only [wJ_sI, wJ_sA, goW]⟩, fun z => ⟨q9 z, by simp only [wJ_sI, wJ_sA, goW]⟩, fun z => ⟨q10 z, by simp only [wJ_sI, wJ_sA, goW]⟩⟩
theorem fj_history {as : List Value} {w : AW} {K : AO → AW → Prop} (h : sp_X12_history as w K) : wT w 100 = 13 ∧ sp_X12_history as w (fun ou v => K ou v ∧ wJ v = wJ w) := by
  obtain ⟨v, k, q, has, hp, hq⟩ := h
  refine ⟨hp.1.1, v, k, q, has, hp, ?_⟩
  obtain ⟨q0, q1, q2, q3, q4⟩ := hq
  exact ⟨fun z => ⟨q0 z, by simp only [wJ_sI, wJ_sA, goW]⟩, fun z => ⟨q1 z, by simp only [wJ_sI, wJ_sA, goW]⟩, fun z => ⟨q2 z, by simp only [wJ_sI, wJ_sA, goW]⟩, fun z => ⟨q3 z, by simp only [wJ_sI, wJ_sA, goW]⟩, fun z => ⟨q4 z, by simp only [wJ_sI, wJ_sA, goW]⟩⟩
theorem fj_lead {as : List Value} {w : AW} {K : AO → AW → Prop} (h : sp_X12_lead as w K) : wT w 100 = 13 ∧ sp_X12_lead as w (fun ou v => K ou v ∧ wJ v = wJ w) := by
  obtain ⟨k, h, has, hp, hq⟩ := h
  refine ⟨hp.1.1, k, h, has, hp, ?_⟩
  obtain ⟨q0, q1⟩ := hq
  exact ⟨fun z => ⟨q0 z, by simp only [wJ_sI, wJ_sA, goW]⟩, fun z => ⟨q1 z, by simp only [wJ_sI, wJ_sA, goW]⟩⟩
theorem fj_room {as : List Value} {w : AW} {K : AO → AW → Prop} (h : sp_X12_room as w K) : wT w 100 = 13 ∧ sp_X12_room as w (fun ou v => K ou v ∧ wJ v = wJ w) := by
  obtain ⟨a, b, c, d, f, has, hp, hq⟩ := h
  refine ⟨hp.1.1, a, b, c, d, f, has, hp, ?_⟩
  obtain ⟨q0, q1, q2⟩ := hq
  exact ⟨fun z => ⟨q0 z, by simp only [wJ_sI, wJ_sA, goW]⟩, fun z => ⟨q1 z, by simp only [wJ_sI, wJ_sA, goW]⟩, fun z => ⟨q2 z, by simp only [wJ_sI, wJ_sA, goW]⟩⟩
theorem fj_air {as : List Value} {w : AW} {K : AO → AW → Prop} (h : sp_X12_air as w K) : wT w 100 = 13 ∧ sp_X12_air as w (fun ou v => K ou v ∧ wJ v = wJ w) := by
  obtain ⟨r, s, k, has, hp, hq⟩ := h
  refine ⟨hp.1.1, r, s, k, has, hp, ?_⟩
  obtain ⟨q0, q1, q2⟩ := hq
  exact ⟨fun z => ⟨q0 z, by simp only [wJ_sI, wJ_sA, goW]⟩, fun z => ⟨q1 z, by simp only [wJ_sI, wJ_sA, goW]⟩, fun z => ⟨q2 z, by simp only [wJ_sI, wJ_sA, goW]⟩⟩
theorem fj_row {as : List Value} {w : AW} {K : AO → AW → Prop} (h : sp_X12_row as w K) : wT w 100 = 13 ∧ sp_X12_row as w (fun ou v => K ou v ∧ wJ v = wJ w) := by
  obtain ⟨s, k, n, has, hp, hq⟩ := h
  refine ⟨hp.1.1, s, k, n, has, hp, ?_⟩
  obtain ⟨q0, q1, q2⟩ := hq
  exact ⟨fun z => ⟨q0 z, by simp only [wJ_sI, wJ_sA, goW]⟩, fun z => ⟨q1 z, by simp only [wJ_sI, wJ_sA, goW]⟩, fun z => ⟨q2 z, (wJ_zrow _ _ _).trans rfl⟩⟩
theorem fj_put {as : List Value} {w : AW} {K : AO → AW → Prop} (h : sp_X12_put as w K) : wT w 100 = 13 ∧ sp_X12_put as w (fun ou v => K ou v ∧ wJ v = wJ w) := by
  obtain ⟨s, k, i, v, has, hp, hq⟩ := h
  refine ⟨hp.1.1, s, k, i, v, has, hp, ?_⟩
  obtain ⟨q0, q1, q2, q3⟩ := hq
  exact ⟨fun z => ⟨q0 z, by simp only [wJ_sI, wJ_sA, goW]⟩, fun z => ⟨q1 z, by simp only [wJ_sI, wJ_sA, goW]⟩, fun z => ⟨q2 z, by simp only [wJ_sI, wJ_sA, goW]⟩, fun z => ⟨q3 z, by simp only [wJ_sI, wJ_sA, goW]⟩⟩
theorem fj_tear {as : List Value} {w : AW} {K : AO → AW → Prop} (h : sp_X12_tear as w K) : wT w 100 = 13 ∧ sp_X12_tear as w (fun ou v => K ou v ∧ wJ v = wJ w) := by
  obtain ⟨s, k, has, hp, hq⟩ := h
  refine ⟨hp.1.1, s, k, has, hp, ?_⟩
  obtain ⟨q0, q1, q2⟩ := hq
  exact ⟨fun z => ⟨q0 z, by simp only [wJ_sI, wJ_sA, goW]⟩, fun z => ⟨q1 z, by simp only [wJ_sI, wJ_sA, goW]⟩, fun z => ⟨q2 z, by simp only [wJ_sI, wJ_sA, goW]⟩⟩
theorem fj_loan {as : List Value} {w : AW} {K : AO → AW → Prop} (h : sp_X12_loan as w K) : wT w 100 = 13 ∧ sp_X12_loan as w (fun ou v => K ou v ∧ wJ v = wJ w) := by
  obtain ⟨n9, a, d, has, hp, hq⟩ := h
  refine ⟨hp.1.1, n9, a, d, has, hp, ?_⟩
  obtain ⟨q1, q2, q3⟩ := hq
  exact ⟨fun z => ⟨q1 z, rfl⟩, fun z => ⟨q2 z, rfl⟩, fun z u hu => ⟨fun y => ⟨(q3 z u hu).1 y, hu.1.2.2.2.2.2.1.trans rfl⟩, fun y => ⟨(q3 z u hu).2 y, hu.1.2.2.2.2.2.1.trans rfl⟩⟩⟩
theorem fj_barred {as : List Value} {w : AW} {K : AO → AW → Prop} (h : sp_X12_barred as w K) : wT w 100 = 13 ∧ sp_X12_barred as w (fun ou v => K ou v ∧ wJ v = wJ w) := by
  obtain ⟨k, c, d, has, hp, hq⟩ := h
  refine ⟨hp.1.1, k, c, d, has, hp, ?_⟩
  obtain ⟨q0, q1, q2⟩ := hq
  exact ⟨fun z => ⟨q0 z, by simp only [wJ_sI, wJ_sA, goW]⟩, fun z => ⟨q1 z, by simp only [wJ_sI, wJ_sA, goW]⟩, fun z => ⟨q2 z, by simp only [wJ_sI, wJ_sA, goW]⟩⟩
theorem fj_crate {as : List Value} {w : AW} {K : AO → AW → Prop} (h : sp_X12_crate as w K) : wT w 100 = 13 ∧ sp_X12_crate as w (fun ou v => K ou v ∧ wJ v = wJ w) := by
  obtain ⟨a, b, has, hp, hq⟩ := h
  refine ⟨hp.1.1, a, b, has, hp, ?_⟩
  obtain ⟨q0, q1, q2⟩ := hq
  exact ⟨fun z => ⟨q0 z, by simp only [wJ_sI, wJ_sA, goW]⟩, fun z => ⟨q1 z, by simp only [wJ_sI, wJ_sA, goW]⟩, fun z => ⟨q2 z, by simp only [wJ_sI, wJ_sA, goW]⟩⟩
theorem fj_pack {as : List Value} {w : AW} {K : AO → AW → Prop} (h : sp_X12_pack as w K) : wT w 100 = 13 ∧ sp_X12_pack as w (fun ou v => K ou v ∧ wJ v = wJ w) := by
  obtain ⟨k, c, has, hp, hq⟩ := h
  refine ⟨hp.1.1, k, c, has, hp, ?_⟩
  obtain ⟨q0, q1, q2, q3, q4, q5⟩ := hq
  exact ⟨fun z => ⟨q0 z, by simp only [wJ_sI, wJ_sA, goW]⟩, fun z => ⟨q1 z, by simp only [wJ_sI, wJ_sA, goW]⟩, fun z => ⟨q2 z, by simp only [wJ_sI, wJ_sA, goW]⟩, fun z => ⟨q3 z, by simp only [wJ_sI, wJ_sA, goW]⟩, fun z => ⟨q4 z, by simp only [wJ_sI, wJ_sA, goW]⟩, fun z => ⟨q5 z, by simp only [wJ_sI, wJ_sA, goW]⟩⟩
theorem fj_send {as : List Value} {w : AW} {K : AO → AW → Prop} (h : sp_X12_send as w K) : wT w 100 = 13 ∧ sp_X12_send as w (fun ou v => K ou v ∧ wJ v = wJ w) := by
  obtain ⟨c, t, h, has, hp, hq⟩ := h
  refine ⟨hp.1.1, c, t, h, has, hp, ?_⟩
  obtain ⟨q0, q1, q2, q3⟩ := hq
  exact ⟨fun z => ⟨q0 z, by simp only [wJ_sI, wJ_sA, goW]⟩, fun z => ⟨q1 z, by simp only [wJ_sI, wJ_sA, goW]⟩, fun z => ⟨q2 z, by simp only [wJ_sI, wJ_sA, goW]⟩, fun z => ⟨q3 z, by simp only [wJ_sI, wJ_sA, goW]⟩⟩
theorem fj_unpack {as : List Value} {w : AW} {K : AO → AW → Prop} (h : sp_X12_unpack as w K) : wT w 100 = 13 ∧ sp_X12_unpack as w (fun ou v => K ou v ∧ wJ v = wJ w) := by
  obtain ⟨v, has, hp, hq⟩ := h
  refine ⟨hp.1.1, v, has, hp, ?_⟩
  obtain ⟨q0, q1, q2, q3⟩ := hq
  exact ⟨fun z => ⟨q0 z, by simp only [wJ_sI, wJ_sA, goW]⟩, fun z => ⟨q1 z, by simp only [wJ_sI, wJ_sA, goW]⟩, fun z => ⟨q2 z, by simp only [wJ_sI, wJ_sA, goW]⟩, fun z => ⟨q3 z, (show wJ (sA (ugW w v.toNatClampNeg (wA w 147 v.toNatClampNeg) (wA w 145 v.toNatClampNeg).toNatClampNeg) 145 v.toNatClampNeg 0) = wJ (ugW w v.toNatClampNeg (wA w 147 v.toNatClampNeg) (wA w 145 v.toNatClampNeg).toNatClampNeg) from rfl).trans (wJ_ugW _ _ _ _)⟩⟩
theorem fj_box {as : List Value} {w : AW} {K : AO → AW → Prop} (h : sp_X12_box as w K) : wT w 100 = 13 ∧ sp_X12_box as w (fun ou v => K ou v ∧ wJ v = wJ w) := by
  obtain ⟨c, q, has, hp, hq⟩ := h
  refine ⟨hp.1.1, c, q, has, hp, ?_⟩
  obtain ⟨q0, q1, q2, q3, q4, q5, q6⟩ := hq
  exact ⟨fun z => ⟨q0 z, by simp only [wJ_sI, wJ_sA, goW]⟩, fun z => ⟨q1 z, by simp only [wJ_sI, wJ_sA, goW]⟩, fun z => ⟨q2 z, by simp only [wJ_sI, wJ_sA, goW]⟩, fun z => ⟨q3 z, by simp only [wJ_sI, wJ_sA, goW]⟩, fun z => ⟨q4 z, by simp only [wJ_sI, wJ_sA, goW]⟩, fun z => ⟨q5 z, by simp only [wJ_sI, wJ_sA, goW]⟩, fun z => ⟨q6 z, by simp only [wJ_sI, wJ_sA, goW]⟩⟩
theorem fj_hang {as : List Value} {w : AW} {K : AO → AW → Prop} (h : sp_X12_hang as w K) : wT w 100 = 13 ∧ sp_X12_hang as w (fun ou v => K ou v ∧ wJ v = wJ w) := by
  obtain ⟨v, x, has, hp, hq⟩ := h
  refine ⟨hp.1.1, v, x, has, hp, ?_⟩
  obtain ⟨q0, q1, q2, q3, q4, q5⟩ := hq
  exact ⟨fun z => ⟨q0 z, by simp only [wJ_sI, wJ_sA, goW]⟩, fun z => ⟨q1 z, by simp only [wJ_sI, wJ_sA, goW]⟩, fun z => ⟨q2 z, by simp only [wJ_sI, wJ_sA, goW]⟩, fun z => ⟨q3 z, by simp only [wJ_sI, wJ_sA, goW]⟩, fun z => ⟨q4 z, by simp only [wJ_sI, wJ_sA, goW]⟩, fun z => ⟨q5 z, by simp only [wJ_sI, wJ_sA, goW]⟩⟩
theorem fj_down {as : List Value} {w : AW} {K : AO → AW → Prop} (h : sp_X12_down as w K) : wT w 100 = 13 ∧ sp_X12_down as w (fun ou v => K ou v ∧ wJ v = wJ w) := by
  obtain ⟨v, has, hp, hq⟩ := h
  refine ⟨hp.1.1, v, has, hp, ?_⟩
  obtain ⟨q1, q2, q3⟩ := hq
  refine ⟨fun z => ⟨q1 z, rfl⟩, fun z => ⟨q2 z, rfl⟩, fun z => ?_⟩
  obtain ⟨r, H, k, hD, hK⟩ := q3 z
  exact ⟨r, H, k, hD, hK, (show wJ (goW (shW (sA (sI w 768 100 0) 128 r (nI H)) r k (H - k)) v 1 (wA w 121 r)) = wJ (shW (sA (sI w 768 100 0) 128 r (nI H)) r k (H - k)) from rfl).trans ((wJ_shW _ _ _ _).trans rfl)⟩
theorem fj_wall {as : List Value} {w : AW} {K : AO → AW → Prop} (h : sp_X12_wall as w K) : wT w 100 = 13 ∧ sp_X12_wall as w (fun ou v => K ou v ∧ wJ v = wJ w) := by
  obtain ⟨r, k, has, hp, hq⟩ := h
  refine ⟨hp.1.1, r, k, has, hp, ?_⟩
  obtain ⟨q0, q1, q2⟩ := hq
  exact ⟨fun z => ⟨q0 z, by simp only [wJ_sI, wJ_sA, goW]⟩, fun z => ⟨q1 z, by simp only [wJ_sI, wJ_sA, goW]⟩, fun z => ⟨q2 z, by simp only [wJ_sI, wJ_sA, goW]⟩⟩
theorem fj_wait {as : List Value} {w : AW} {K : AO → AW → Prop} (h : sp_X12_wait as w K) : wT w 100 = 13 ∧ sp_X12_wait as w (fun ou v => K ou v ∧ wJ v = wJ w) := by
  obtain ⟨h, has, hp, hq⟩ := h
  refine ⟨hp.choose_spec.choose_spec.2.2.1.1, h, has, hp, ?_⟩
  obtain ⟨q0, q1, q2⟩ := hq
  exact ⟨fun z => ⟨q0 z, by simp only [wJ_sI, wJ_sA, goW]⟩, fun z => ⟨q1 z, by simp only [wJ_sI, wJ_sA, goW]⟩, fun z => ⟨q2 z, wJ_wtR _ _⟩⟩
theorem fj_unknown {as : List Value} {w : AW} {K : AO → AW → Prop} (h : sp_X12_unknown as w K) : wT w 100 = 13 ∧ sp_X12_unknown as w (fun ou v => K ou v ∧ wJ v = wJ w) := by
  obtain ⟨r, has, hp, hq⟩ := h
  refine ⟨hp.1.1, r, has, hp, ?_⟩
  obtain ⟨q0, q1⟩ := hq
  exact ⟨fun z => ⟨q0 z, by simp only [wJ_sI, wJ_sA, goW]⟩, fun z => ⟨q1 z, by simp only [wJ_sI, wJ_sA, goW]⟩⟩
theorem fj_breach {as : List Value} {w : AW} {K : AO → AW → Prop} (h : sp_X12_breach as w K) : wT w 100 = 13 ∧ sp_X12_breach as w (fun ou v => K ou v ∧ wJ v = wJ w) := by
  obtain ⟨k, q, has, hp, hq⟩ := h
  refine ⟨hp.1, k, q, has, hp, ?_⟩
  obtain ⟨q0, q1, q2, q3, q4⟩ := hq
  exact ⟨fun z => ⟨q0 z, by simp only [wJ_sI, wJ_sA, goW]⟩, fun z => ⟨q1 z, by simp only [wJ_sI, wJ_sA, goW]⟩, fun z => ⟨q2 z, by simp only [wJ_sI, wJ_sA, goW]⟩, fun z => ⟨q3 z, by simp only [wJ_sI, wJ_sA, goW]⟩, fun z => ⟨q4 z, by simp only [wJ_sI, wJ_sA, goW]⟩⟩
theorem fj_step {as : List Value} {w : AW} {K : AO → AW → Prop} (h : sp_X12_step as w K) : wT w 100 = 13 ∧ sp_X12_step as w (fun ou v => K ou v ∧ wJ v = wJ w) := by
  obtain ⟨v, b, has, hp, hq⟩ := h
  refine ⟨hp.1.1, v, b, has, hp, ?_⟩
  obtain ⟨q1, q2⟩ := hq
  exact ⟨fun z => ⟨q1 z, rfl⟩, fun z => ⟨fun y u hu => ⟨(q2 z).1 y u hu, hu.2.2.2.2.2.1.trans rfl⟩, fun l hl => ⟨fun y u hu => ⟨((q2 z).2 l hl).1 y u hu, hu.2.2.2.2.2.1.trans rfl⟩, fun y u hu => ⟨((q2 z).2 l hl).2 y u hu, hu.1.2.2.2.2.2.1.trans rfl⟩⟩⟩⟩
theorem fj_hanging {as : List Value} {w : AW} {K : AO → AW → Prop} (h : sp_X12_hanging as w K) : wT w 100 = 13 ∧ sp_X12_hanging as w (fun ou v => K ou v ∧ wJ v = wJ w) := by
  obtain ⟨v, b, q, has, hp, hq⟩ := h
  refine ⟨hp.1.1, v, b, q, has, hp, ?_⟩
  obtain ⟨q1, q2⟩ := hq
  exact ⟨fun z => ⟨q1 z, rfl⟩, fun z => ⟨fun y u hu => ⟨(q2 z).1 y u hu, hu.2.2.2.2.2.1.trans rfl⟩, fun l hl => ⟨fun y u hu => ⟨((q2 z).2 l hl).1 y u hu, hu.2.2.2.2.2.1.trans rfl⟩, fun y u hu => ⟨fun x => ⟨(((q2 z).2 l hl).2 y u hu).1 x, hu.1.2.2.2.2.2.1.trans rfl⟩, fun x => ⟨(((q2 z).2 l hl).2 y u hu).2 x, hu.1.2.2.2.2.2.1.trans rfl⟩⟩⟩⟩⟩
theorem fj_gain {as : List Value} {w : AW} {K : AO → AW → Prop} (h : sp_X12_gain as w K) : wT w 100 = 13 ∧ sp_X12_gain as w (fun ou v => K ou v ∧ wJ v = wJ w) := by
  obtain ⟨c, u, g, has, hp, hq⟩ := h
  refine ⟨hp.1, c, u, g, has, hp, ?_⟩
  obtain ⟨q0, q1⟩ := hq
  exact ⟨fun z => ⟨q0 z, by simp only [wJ_sI, wJ_sA, goW]⟩, fun z => ⟨q1 z, by simp only [wJ_sI, wJ_sA, goW]⟩⟩
theorem fj_tour {as : List Value} {w : AW} {K : AO → AW → Prop} (h : sp_X12_tour as w K) : wT w 100 = 13 ∧ sp_X12_tour as w (fun ou v => K ou v ∧ wJ v = wJ w) := by
  obtain ⟨v, has, hp, hq⟩ := h
  refine ⟨hp.1.1, v, has, hp, ?_⟩
  obtain ⟨q0, q1⟩ := hq
  exact ⟨fun z => ⟨q0 z, by simp only [wJ_sI, wJ_sA, goW]⟩, fun z => ⟨q1 z, by simp only [wJ_sI, wJ_sA, goW]⟩⟩
