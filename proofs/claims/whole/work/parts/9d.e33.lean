theorem by8 (y : Int32) : (y.toInt8.toInt32 = y &&& 255 ∧ 0 ≤ y &&& 255 ∧ y &&& 255 ≤ 127) ∨ (y.toInt8.toInt32 < 0 ∧ 128 ≤ y &&& 255) := by
  have hf : (y &&& 255).toBitVec.toNat = y.toBitVec.toNat % 256 := by
    rw [Int32.toBitVec_and, BitVec.toNat_and]
    exact Nat.and_two_pow_sub_one_eq_mod _ 8
  have hfi : (y &&& 255).toInt = ((y.toBitVec.toNat % 256 : Nat) : Int) := by
    rw [← Int32.toInt_toBitVec, BitVec.toInt_eq_toNat_cond, hf, if_pos (by omega)]
  have ht : (y.toInt8.toInt32).toInt = if y.toBitVec.toNat % 256 < 128 then ((y.toBitVec.toNat % 256 : Nat) : Int) else ((y.toBitVec.toNat % 256 : Nat) : Int) - 256 := by
    rw [Int8.toInt_toInt32, ← Int8.toInt_toBitVec, Int32.toBitVec_toInt8, BitVec.signExtend_eq_setWidth_of_le _ (by decide), BitVec.toInt_eq_toNat_cond, BitVec.toNat_setWidth]
    show (if 2 * (y.toBitVec.toNat % 256) < 256 then _ else _) = _
    by_cases z : y.toBitVec.toNat % 256 < 128
    · rw [if_pos (by omega), if_pos z]
    · rw [if_neg (by omega), if_neg z]; try rfl
  have c0 : (0 : Int32).toInt = 0 := rfl
  have c1 : (127 : Int32).toInt = 127 := rfl
  have c2 : (128 : Int32).toInt = 128 := rfl
  by_cases z : y.toBitVec.toNat % 256 < 128
  · refine Or.inl ⟨Int32.toInt_inj.mp ?_, ?_, ?_⟩
    · rw [ht, hfi, if_pos z]
    · rw [Int32.le_iff_toInt_le, hfi, c0]; omega
    · rw [Int32.le_iff_toInt_le, hfi, c1]; omega
  · refine Or.inr ⟨?_, ?_⟩
    · rw [Int32.lt_iff_toInt_lt, ht, if_neg z, c0]; omega
    · rw [Int32.le_iff_toInt_le, hfi, c2]; omega
def shk (k : Nat) : Int32 := if k % 4 = 0 then 24 else if k % 4 = 1 then 16 else if k % 4 = 2 then 8 else 0
theorem fby_is (v : Int32) : ∀ k, k < 20 → fby v k = v >>> (shk k &&& 31) &&& 255 := by
  intro k hk
  have q : ∀ k, k < 20 → (24 - 8 * (nI k - nI k / 4 * 4) &&& 31 : Int32) = shk k &&& 31 := by decide
  unfold fby
  rw [q k hk]
def tpW (w : AW) (a b c d e : Int32) : Nat → AW
  | 0 => w
  | k + 1 => atB (tpW w a b c d e k) (fdv a b c d e k) (shk k)
theorem tpW_is (w : AW) (a b c d e : Int32) : at4 (at4 (at4 (at4 (at4 w a) b) c) d) e = tpW w a b c d e 20 := rfl
theorem nar8 (y : Int32) : vp_nar FieldType.byte y.toInt8.toInt32 = y.toInt8.toInt32 := by
  show (y.toInt8.toInt32).toInt8.toInt32 = _
  rw [Int8.toInt8_toInt32]
theorem tp_facts {w : AW} {t : Nat} (a b c d e : Int32) (ht : t ≤ 180) (h7 : wI w 715 200 = nI t) : ∀ k, k ≤ 20 → wI (tpW w a b c d e k) 715 200 = nI (t + k) ∧ (∀ j, wA (tpW w a b c d e k) 209 j = if t ≤ j ∧ j < t + k then (fdv a b c d e (j - t) >>> (shk (j - t) &&& 31)).toInt8.toInt32 else wA w 209 j) ∧ AX [715] [209] (fun _ => False) w (tpW w a b c d e k) ∧ wT (tpW w a b c d e k) = wT w ∧ CIv (tpW w a b c d e k) = CIv w
  | 0, _ => ⟨h7, fun j => by rw [if_neg (by omega)]; rfl, AX.refl, rfl, rfl⟩
  | k + 1, hk => by
    obtain ⟨i1, i2, i3, i4, i5⟩ := tp_facts a b c d e ht h7 k (by omega)
    have ec : (nI (t + k)).toNatClampNeg = t + k := nI_clamp (by omega)
    rw [tpW]
    refine ⟨?_, fun j => ?_, ?_, ?_, ?_⟩
    · unfold atB
      rw [wI_sI, if_pos rfl, if_pos rfl, i1, nI_succ1]; rfl
    · unfold atB
      rw [wA_sI, wA_sA, if_pos rfl, i1, ec, i2]
      by_cases z : j = t + k
      · subst z
        rw [if_pos rfl, if_pos (by omega), nar8, Nat.add_sub_cancel_left]
      · rw [if_neg z]
        by_cases y : t ≤ j ∧ j < t + k
        · rw [if_pos y, if_pos (by omega)]
        · rw [if_neg y, if_neg (by omega)]
    · unfold atB
      refine AX.oI ?_ (Or.inr (by decide))
      refine AX.oA ?_ (Or.inr (by decide))
      exact i3
    · exact i4
    · rw [CIv_atB]; exact i5
theorem fd_facts {w : AW} {t : Nat} (a b c d e : Int32) : ∀ k, (∀ j, wA (fdW w t a b c d e k) 135 j = if t ≤ j ∧ j < t + k then fby (fdv a b c d e (j - t)) (j - t) else wA w 135 j) ∧ (0 < k → wI (fdW w t a b c d e k) 797 100 = nI (t + k)) ∧ (wI (fdW w t a b c d e k) 768 100 = 0) ∧ (∀ {w0 : AW} {ks rs : List Nat} {ls : Nat → Prop}, AX ks rs ls w0 w → 768 ∈ ks → 797 ∈ ks → 135 ∈ rs → AX ks rs ls w0 (fdW w t a b c d e k)) ∧ wT (fdW w t a b c d e k) = wT w ∧ CIv (fdW w t a b c d e k) = CIv w
  | 0 => ⟨fun j => by rw [if_neg (by omega)]; rfl, fun z => absurd z (Nat.lt_irrefl _), rfl, fun g h1 h2 h3 => AX.oI g (Or.inr h1), rfl, rfl⟩
  | k + 1 => by
    obtain ⟨i1, i2, i3, i4, i5, i6⟩ := fd_facts (w := w) (t := t) a b c d e k
    rw [fdW]
    refine ⟨fun j => ?_, fun _ => ?_, ?_, fun g h1 h2 h3 => ?_, i5, ?_⟩
    · rw [wA_sI, wA_sA, if_pos rfl, i1]
      by_cases z : j = t + k
      · subst z
        rw [if_pos rfl, if_pos (by omega), Nat.add_sub_cancel_left]
      · rw [if_neg z]
        by_cases y : t ≤ j ∧ j < t + k
        · rw [if_pos y, if_pos (by omega)]
        · rw [if_neg y, if_neg (by omega)]
    · rw [wI_sI, if_pos rfl, if_pos rfl]; rfl
    · rw [wI_sI, if_neg (by decide), wI_sA]; exact i3
    · exact AX.oI (AX.oA (i4 g h1 h2 h3) (Or.inr h3)) (Or.inr h2)
    · rw [show ∀ u v, CIv (sI u 797 100 v) = CIv u from fun _ _ => rfl, CIv_sA]; exact i6
theorem ru_feed {n t : Nat} {w u : AW} (h : Rel n w) (ht : t ≤ 180) (h7 : wI w 715 200 = nI t) (g : AX [715, 768, 797] [135, 209] (fun _ => False) w u) (hI : CIv u) (hT : wT u = wT w) (u7 : wI u 715 200 = nI (t + 20)) (u9 : wI u 797 100 = nI (t + 20)) (hb : BY (wA u 209) (wA u 135) (t + 20)) : Rel (n + 1) u := by
  have hC := h.ci
  have hR := h.ri
  refine ⟨hI, g.xri hR (by decide), g.xrk hR h.rb (Or.inl (by decide)) (Or.inl (by decide)) (Or.inl (by decide)) (Or.inl (by decide)) (Or.inr (⟨t + 20, by omega, u9⟩)) (Or.inl (by decide)) (Or.inl (by decide)) (Or.inl (by decide)) (Or.inl (by decide)) (Or.inl (by decide)) (Or.inl (by decide)) (Or.inl (by decide)) (Or.inl (by decide)) (Or.inl (by decide)) (Or.inl (by decide)), ?_, g.xw hC hR h.wk (by first | exact id | (intro _ _; exact id)) (by decide) (by decide), g.xl hC hR h.l (by first | exact id | (intro _ _; exact id)) (by first | exact id | (intro _ _; exact id)) (by decide) (by decide), g.xr hC hR h.r (by first | exact id | (intro _ _; exact id)) (by first | exact id | (intro _ _; exact id)) (by decide) (by decide), g.xk hC hR h.k (by first | exact id | (intro _ _; exact id)) (by first | exact id | (intro _ _; exact id)) (by decide) (by decide), g.xu hC hR h.u (by decide) (by decide) (by decide), g.xs hC hR h.s (by first | exact id | (intro _ _; exact id)) (by intro q hq; simp only [List.mem_cons, List.not_mem_nil, or_false] at hq <;> omega) (by intro q hq; simp only [List.mem_cons, List.not_mem_nil, or_false] at hq <;> omega) (by decide), g.xa hC hR h.a (by first | exact id | (intro _ _; exact id)) (Nat.le_of_eq (g.c3 hC (by first | exact id | (intro _ _; exact id))).symm) (by decide) (by decide), g.xg hC hR h.g (by first | exact id | (intro _ _; exact id)) (by first | exact id | (intro _ _; exact id)) (by first | exact id | (intro _ _; exact id)) (by decide), g.xd hC hR h.d (by first | exact id | (intro _ _; exact id)) (by first | exact id | (intro _ _; exact id)) (by first | exact id | (intro _ _; exact id)) (by decide), g.xn hC hR h.n (by first | exact id | (intro _ _; exact id)) (by first | exact id | (intro _ _; exact id)) (by decide) (by decide), (g.xm hC hR h.m (by first | exact id | (intro _ _; exact id)) (by first | exact id | (intro _ _; exact id)) (by decide)).up, ?_, g.xb hC hR h.b (by decide) (by decide) (by decide), RLf.st h.f (fun x => False) (fun x _ => by rw [hT]) (Nat.le_of_eq (g.c1 hC (by first | exact id | (intro _ _; exact id))).symm) (Nat.le_of_eq (g.c2 hC (by first | exact id | (intro _ _; exact id))).symm) (Nat.le_of_eq (g.c3 hC (by first | exact id | (intro _ _; exact id))).symm) (Nat.le_of_eq (g.c4 hC (by first | exact id | (intro _ _; exact id))).symm) (Nat.le_of_eq (g.c5 hC (by first | exact id | (intro _ _; exact id))).symm) (Nat.le_of_eq (congrArg _ (g.I hR.1 (by decide) (by decide)).symm)) (by intro n a b; first | exact ⟨id, id⟩ | exact ⟨id, id, id⟩ | exact id) (by intro n a b; first | exact ⟨id, id⟩ | exact ⟨id, id, id⟩ | exact id) (by intro n a b; first | exact ⟨id, id⟩ | exact ⟨id, id, id⟩ | exact id) (by intro n a b; first | exact ⟨id, id⟩ | exact ⟨id, id, id⟩ | exact id) (by intro n a b; refine ⟨by first | exact ⟨id, id⟩ | exact ⟨id, id, id⟩ | exact id, by first | exact ⟨id, id⟩ | exact ⟨id, id, id⟩ | exact id, fun i hi => ?_⟩; first | exact ⟨id, id⟩ | exact ⟨id, id, id⟩ | exact id) (by first | exact ⟨id, id⟩ | exact ⟨id, id, id⟩ | exact id) (by intro n a; first | exact ⟨id, id⟩ | exact ⟨id, id, id⟩ | exact id), g.xv hC hR h.v (by first | exact id | (intro _ _; exact id)) (by first | exact id | (intro _ _; exact id)) (by first | exact id | (intro _ _; exact id)) (by decide), g.xz hC hR h.z (by first | exact id | (intro _ _; exact id)) (by decide), g.xo h.o⟩
  · obtain ⟨q1, q2, q3, q4, q5, q6, q7⟩ := h.c
    have a1 := g.i1 hR (l := [770, 784, 787, 798, 809, 769]) (by decide)
    have a2 := g.i2 hC (l := [716]) (by decide)
    unfold RLc
    rw [u7, u9, g.c1 hC id, g.c2 hC id, g.c3 hC id, g.c4 hC id, g.c5 hC id]
    simp (disch := decide) only [a1, a2]
    exact ⟨q1, q2, q3, q4, q5, q6, trivial⟩
  · unfold RLt
    rw [u7, nI_clamp (by omega)]; exact hb
theorem pr_feed {n : Nat} {w : AW} (h : Rel n w) (hn : n < 512) (p0 p1 p2 p3 p4 : Int32) : sp_X11_feed [.ref 200, .int p0, .int p1, .int p2, .int p3, .int p4] w (PRd sp_X12_feed [.int p0, .int p1, .int p2, .int p3, .int p4] n) := by
  have bd := h.ci.bd
  have e7 : wI w 797 100 = wI w 715 200 := h.c.2.2.2.2.2.2
  obtain ⟨t, ht, et⟩ := rb_taped h.rb
  rw [e7] at et
  rw [sq_X11_feed]
  have h20 : (wI w 715 200 + 20 ≤ 200) ↔ t ≤ 180 := by
    rw [et, show (nI t + 20 : Int32) = nI (t + 20) from nI_add t 20]
    rw [show (200 : Int32) = nI 200 from rfl, nI_leI (by omega) (by omega)]
    omega
  refine ⟨⟨h.ci, t, ht, et⟩, fun hc => ?_, fun hc => ?_⟩
  · refine ⟨h.o, _, rfl, ?_⟩
    rw [sq_X12_feed, e7]
    exact ⟨⟨h.ri, h.rb⟩, fun _ => ⟨rfl, h.up.thr 0⟩, fun a => absurd a (Int32.not_le.mpr hc)⟩
  · have h180 : t ≤ 180 := h20.mp (Int32.not_lt.mp hc)
    rw [tpW_is]
    obtain ⟨i1, i2, i3, i4, i5⟩ := tp_facts (w := w) p0 p1 p2 p3 p4 h180 et 20 (Nat.le_refl _)
    refine ⟨i3.xo h.o, _, rfl, ?_⟩
    have g : AX [715, 768, 797] [135, 209] (fun _ => False) w (tpW w p0 p1 p2 p3 p4 20) := fun x hx => by
      obtain ⟨a, b, c, d, e⟩ := i3 x hx
      refine ⟨a, b, c, fun k hk => d k ?_, fun hr => e ?_⟩
      · simp only [List.mem_cons, List.not_mem_nil, or_false, not_or] at *; exact hk.1
      · simp only [List.mem_cons, List.not_mem_nil, or_false, not_or] at *; exact hr.2
    have e1 : wI (tpW w p0 p1 p2 p3 p4 20) 797 100 = nI t := by
      rw [i3.I h.ri.1 (by decide) (by decide), e7]; exact et
    have e2 : wA (tpW w p0 p1 p2 p3 p4 20) 135 = wA w 135 := i3.A (rfT h.ri (t := 135) (by decide)) (by decide) (by decide)
    rw [i1, sq_X12_feed, e1, nI_clamp (by omega)]
    refine ⟨⟨i3.xri h.ri (by decide), i3.xrb h.ri h.rb (by decide) (by decide)⟩, fun a => absurd ?_ a, fun _ => ⟨?_, ?_⟩⟩
    · rw [show (nI t + 20 : Int32) = nI (t + 20) from nI_add t 20]
      exact (nI_leI (b := 200) (by omega) (by decide)).mpr (by omega)
    · rw [show (nI t + 20 : Int32) = nI (t + 20) from nI_add t 20]
    · obtain ⟨f1, f2, f3, f4, f5, f6⟩ := fd_facts (w := tpW w p0 p1 p2 p3 p4 20) (t := t) p0 p1 p2 p3 p4 20
      have gU := f4 g (by decide) (by decide) (by decide)
      have u7 : wI (fdW (tpW w p0 p1 p2 p3 p4 20) t p0 p1 p2 p3 p4 20) 715 200 = nI (t + 20) := by
        rw [← i1]
        exact (f4 (w0 := tpW w p0 p1 p2 p3 p4 20) (ks := [768, 797]) (rs := [135]) (ls := fun _ => False) AX.refl (by decide) (by decide) (by decide)).I (x := 200) (c := 12) (by rw [i4]; exact h.ci.2.1.1) (by decide) (by decide)
      have u2 : wA (fdW (tpW w p0 p1 p2 p3 p4 20) t p0 p1 p2 p3 p4 20) 209 = wA (tpW w p0 p1 p2 p3 p4 20) 209 :=
        (f4 (w0 := tpW w p0 p1 p2 p3 p4 20) (ks := [768, 797]) (rs := [135]) (ls := fun _ => False) AX.refl (by decide) (by decide) (by decide)).A (x := 209) (c := 21) (by rw [i4]; exact h.ci.2.1.2.2.2.2.2.1.2.1) (by decide) (by decide)
      refine ru_feed h h180 et gU (by rw [f6, i5]; exact h.ci) (by rw [f5, i4]) u7 (f2 (by decide)) (fun i hi => ?_)
      rw [u2, i2, f1, e2]
      by_cases z : t ≤ i ∧ i < t + 20
      · rw [if_pos z, if_pos z, fby_is _ _ (by omega)]
        exact by8 _
      · rw [if_neg z, if_neg z]
        have q := h.t i (by rw [et, nI_clamp (by omega)]; omega)
        exact q

