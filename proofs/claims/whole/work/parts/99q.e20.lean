theorem wA_czr (w : AW) (a b : Nat) : ∀ n t x, wA (czr w a b n) t x = if t = a ∧ b ≤ x ∧ x < b + n then 0 else wA w t x
  | 0, t, x => by rw [if_neg (by omega)]; rfl
  | n + 1, t, x => by
    rw [czr, wA_sA, wA_czr w a b n]
    by_cases e : t = a
    · rw [if_pos e]
      by_cases e2 : x = b + n
      · rw [if_pos e2, if_pos ⟨e, by omega, by omega⟩]
      · rw [if_neg e2]
        by_cases e3 : t = a ∧ b ≤ x ∧ x < b + n
        · rw [if_pos e3, if_pos ⟨e, e3.2.1, by omega⟩]
        · rw [if_neg e3, if_neg (fun z => e3 ⟨z.1, z.2.1, by omega⟩)]
    · rw [if_neg e, if_neg (fun z => e z.1), if_neg (fun z => e z.1)]
theorem wA_zrow (w : AW) (b : Nat) : ∀ n t x, wA (zrow w b n) t x = if t = 119 ∧ b ≤ x ∧ x < b + n then 0 else wA w t x
  | 0, t, x => by rw [if_neg (by omega)]; rfl
  | n + 1, t, x => by
    rw [zrow, wA_sA, wA_zrow w b n]
    by_cases e : t = 119
    · rw [if_pos e]
      by_cases e2 : x = b + n
      · rw [if_pos e2, if_pos ⟨e, by omega, by omega⟩]
      · rw [if_neg e2]
        by_cases e3 : t = 119 ∧ b ≤ x ∧ x < b + n
        · rw [if_pos e3, if_pos ⟨e, e3.2.1, by omega⟩]
        · rw [if_neg e3, if_neg (fun z => e3 ⟨z.1, z.2.1, by omega⟩)]
    · rw [if_neg e, if_neg (fun z => e z.1), if_neg (fun z => e z.1)]
theorem wT_czr (w : AW) (a b : Nat) : ∀ n, wT (czr w a b n) = wT w
  | 0 => rfl
  | n + 1 => wT_czr w a b n
theorem wT_zrow (w : AW) (b : Nat) : ∀ n, wT (zrow w b n) = wT w
  | 0 => rfl
  | n + 1 => wT_zrow w b n
theorem wI_czr (w : AW) (a b : Nat) : ∀ n, wI (czr w a b n) = wI w
  | 0 => rfl
  | n + 1 => wI_czr w a b n
theorem wI_zrow (w : AW) (b : Nat) : ∀ n, wI (zrow w b n) = wI w
  | 0 => rfl
  | n + 1 => wI_zrow w b n
theorem wR_czr (w : AW) (a b : Nat) : ∀ n, wR (czr w a b n) = wR w
  | 0 => rfl
  | n + 1 => wR_czr w a b n
theorem wR_zrow (w : AW) (b : Nat) : ∀ n, wR (zrow w b n) = wR w
  | 0 => rfl
  | n + 1 => wR_zrow w b n
theorem wN_czr (w : AW) (a b : Nat) : ∀ n, wN (czr w a b n) = wN w
  | 0 => rfl
  | n + 1 => wN_czr w a b n
theorem wN_zrow (w : AW) (b : Nat) : ∀ n, wN (zrow w b n) = wN w
  | 0 => rfl
  | n + 1 => wN_zrow w b n
theorem wJ_czr (w : AW) (a b : Nat) : ∀ n, wJ (czr w a b n) = wJ w
  | 0 => rfl
  | n + 1 => wJ_czr w a b n
theorem wJ_zrow (w : AW) (b : Nat) : ∀ n, wJ (zrow w b n) = wJ w
  | 0 => rfl
  | n + 1 => wJ_zrow w b n
theorem wP_czr (w : AW) (a b : Nat) : ∀ n, wP (czr w a b n) = wP w
  | 0 => rfl
  | n + 1 => wP_czr w a b n
theorem wP_zrow (w : AW) (b : Nat) : ∀ n, wP (zrow w b n) = wP w
  | 0 => rfl
  | n + 1 => wP_zrow w b n
theorem wL_czr (w : AW) (a b : Nat) : ∀ n, wL (czr w a b n) = wL w
  | 0 => rfl
  | n + 1 => wL_czr w a b n
theorem wL_zrow (w : AW) (b : Nat) : ∀ n, wL (zrow w b n) = wL w
  | 0 => rfl
  | n + 1 => wL_zrow w b n
theorem rl_put {n : Nat} {w : AW} (h : Rel n w) {q k i : Nat} {v : Int32} {y : Int64} (hq : q < ct w 203) (hk : k < 10) (hi : i < 24) : Rel (n + 1) (sA (sI (sJ (sA w (1600 + q) (24 * k + i) v) 222 0 y) 768 100 0) 119 (24 * (10 * q + k) + i) v) := by
  have hm := (ci_sheets h.ci).2.2
  refine h.up.cs ⟨rfl, rfl, rfl, rfl, rfl, fun k x hk => wI_768 hk, fun t ht h9 => ?_⟩ (fun j hj => ?_) ⟨fun a b ha hb => ?_, fun j a b => ?_⟩
  · obtain ⟨h8, h9⟩ := mem_89 h9
    funext x
    simp only [wA_sA, wA_sI, wA_sJ, if_neg h9, if_neg (show ¬ t = 1600 + q by omega)]
  · simp only [wA_sA, wA_sI, wA_sJ, if_neg (show ¬ 118 = 119 by decide), if_neg (show ¬ 118 = 1600 + q by omega)]
    exact rb_rowSize h.rb j hj
  · have ha' : a < ct w 203 := ha
    obtain ⟨s1, s2⟩ := h.s.1 a b ha hb
    simp only [wA_sA, wA_sI, wA_sJ, if_true, if_neg (show ¬ 118 = 119 by decide), if_neg (show ¬ 118 = 1600 + q by omega), if_neg (show ¬ 119 = 1600 + q by omega), if_neg (show ¬ 1500 + a = 119 by omega), if_neg (show ¬ 1500 + a = 1600 + q by omega), if_neg (show ¬ 1600 + a = 119 by omega)]
    refine ⟨s1, fun j hj hj2 => ?_⟩
    by_cases e : a = q ∧ b = k ∧ j = i
    · obtain ⟨rfl, rfl, rfl⟩ := e
      rw [if_pos rfl, if_pos rfl, if_pos rfl]
    · rw [if_neg (show ¬ 24 * (10 * a + b) + j = 24 * (10 * q + k) + i by omega)]
      by_cases e1 : a = q
      · rw [if_pos (by omega), if_neg (by omega)]
        exact s2 j hj hj2
      · rw [if_neg (by omega)]
        exact s2 j hj hj2
  · have b' : 10 * ct w 203 ≤ j := b
    simp only [wA_sA, wA_sI, wA_sJ, if_neg (show ¬ 118 = 119 by decide), if_neg (show ¬ 118 = 1600 + q by omega)]
    exact h.s.2 j a b
theorem rl_row {n : Nat} {w : AW} (h : Rel n w) {q k m : Nat} {y : Int64} (hq : q < ct w 203) (hk : k < 10) (hm24 : m ≤ 24) : Rel (n + 1) (zrow (sA (sI (sJ (czr (sA w (1500 + q) k (nI m)) (1600 + q) (24 * k) m) 222 0 y) 768 100 0) 118 (10 * q + k) (nI m)) (24 * (10 * q + k)) 24) := by
  have hm := (ci_sheets h.ci).2.2
  have hct : ∀ z : AW, wL z = wL w → ct z 203 = ct w 203 := fun z e => by unfold ct; rw [e]
  have hL : wL (zrow (sA (sI (sJ (czr (sA w (1500 + q) k (nI m)) (1600 + q) (24 * k) m) 222 0 y) 768 100 0) 118 (10 * q + k) (nI m)) (24 * (10 * q + k)) 24) = wL w := by simp only [wL_zrow, wL_sA, wL_sI, wL_sJ, wL_czr]
  refine h.up.cs ⟨?_, ?_, ?_, hL, ?_, fun k x hk => ?_, fun t ht h9 => ?_⟩ (fun j hj => ?_) ⟨fun a b ha hb => ?_, fun j a b => ?_⟩
  · simp only [wT_zrow, wT_sA, wT_sI, wT_sJ, wT_czr]
  · simp only [wR_zrow, wR_sA, wR_sI, wR_sJ, wR_czr]
  · simp only [wN_zrow, wN_sA, wN_sI, wN_sJ, wN_czr]
  · simp only [wP_zrow, wP_sA, wP_sI, wP_sJ, wP_czr]
  · rw [wI_zrow, wI_sA, wI_768 hk, wI_sJ, wI_czr, wI_sA]
  · obtain ⟨h8, h9⟩ := mem_89 h9
    funext x
    simp only [wA_zrow, wA_sA, wA_sI, wA_sJ, wA_czr, if_neg h8, if_neg (show ¬ (t = 119 ∧ 24 * (10 * q + k) ≤ x ∧ x < 24 * (10 * q + k) + 24) by omega), if_neg (show ¬ (t = 1600 + q ∧ 24 * k ≤ x ∧ x < 24 * k + m) by omega), if_neg (show ¬ t = 1500 + q by omega)]
  · simp only [wA_zrow, wA_sA, wA_sI, wA_sJ, wA_czr, if_true, if_neg (show ¬ (118 = 119 ∧ 24 * (10 * q + k) ≤ j ∧ j < 24 * (10 * q + k) + 24) by omega), if_neg (show ¬ (118 = 1600 + q ∧ 24 * k ≤ j ∧ j < 24 * k + m) by omega), if_neg (show ¬ 118 = 1500 + q by omega)]
    split
    · exact Or.inr ⟨m, hm24, rfl⟩
    · exact rb_rowSize h.rb j hj
  · have ha : a < ct w 203 := by rw [hct _ hL] at ha; exact ha
    obtain ⟨s1, s2⟩ := h.s.1 a b ha hb
    simp only [wA_zrow, wA_sA, wA_sI, wA_sJ, wA_czr, if_true, if_neg (show ¬ (118 = 119 ∧ 24 * (10 * q + k) ≤ 10 * a + b ∧ 10 * a + b < 24 * (10 * q + k) + 24) by omega), if_neg (show ¬ (118 = 1600 + q ∧ 24 * k ≤ 10 * a + b ∧ 10 * a + b < 24 * k + m) by omega), if_neg (show ¬ 118 = 1500 + q by omega), if_neg (show ¬ (1500 + a = 119 ∧ 24 * (10 * q + k) ≤ b ∧ b < 24 * (10 * q + k) + 24) by omega), if_neg (show ¬ 1500 + a = 118 by omega), if_neg (show ¬ (1500 + a = 1600 + q ∧ 24 * k ≤ b ∧ b < 24 * k + m) by omega), if_neg (show ¬ 119 = 118 by decide), if_neg (show ¬ 119 = 1500 + q by omega), if_neg (show ¬ 1600 + a = 118 by omega), if_neg (show ¬ 1600 + a = 1500 + q by omega)]
    by_cases e : a = q ∧ b = k
    · obtain ⟨rfl, rfl⟩ := e
      rw [if_pos rfl, if_pos rfl, if_pos rfl]
      refine ⟨rfl, fun i hi hi2 => ?_⟩
      have hi : i < m := (nI_ltI (by omega) (by omega)).mp hi
      rw [if_pos ⟨trivial, by omega, by omega⟩, if_neg (show ¬ (1600 + a = 119 ∧ 24 * (10 * a + b) ≤ 24 * b + i ∧ 24 * b + i < 24 * (10 * a + b) + 24) by omega), if_pos ⟨rfl, by omega, by omega⟩]
    · rw [if_neg (show ¬ 10 * a + b = 10 * q + k by omega)]
      have e5 : (if 1500 + a = 1500 + q then (if b = k then nI m else wA w (1500 + a) b) else wA w (1500 + a) b) = wA w (1500 + a) b := by
        by_cases e1 : a = q
        · rw [if_pos (by omega), if_neg (fun z => e ⟨e1, z⟩)]
        · rw [if_neg (by omega)]
      rw [e5]
      refine ⟨s1, fun i hi hi2 => ?_⟩
      rw [if_neg (by omega), if_neg (by omega), if_neg (by omega), if_neg (by omega)]
      exact s2 i hi hi2
  · have b' : 10 * ct w 203 ≤ j := by rw [hct _ hL] at b; exact b
    simp only [wA_zrow, wA_sA, wA_sI, wA_sJ, wA_czr, if_true, if_neg (show ¬ (118 = 119 ∧ 24 * (10 * q + k) ≤ j ∧ j < 24 * (10 * q + k) + 24) by omega), if_neg (show ¬ (118 = 1600 + q ∧ 24 * k ≤ j ∧ j < 24 * k + m) by omega), if_neg (show ¬ 118 = 1500 + q by omega)]
    rw [if_neg (by omega)]
    exact h.s.2 j a b'

theorem ne_85 (x : Nat) : (118 = 1500 + x) = False := eq_false (by omega)
theorem ne_86 (x : Nat) : (118 = 1600 + x) = False := eq_false (by omega)
theorem ixr_is {w : AW} {s k : Int32} (hC : CIv w) (h : (0 ≤ s ∧ s < nI (ct w 203)) ∧ (0 ≤ k ∧ k < 10)) : 10 * s + k = nI (10 * s.toNatClampNeg + k.toNatClampNeg) ∧ (10 * s + k).toNatClampNeg = 10 * s.toNatClampNeg + k.toNatClampNeg ∧ s.toNatClampNeg < ct w 203 ∧ k.toNatClampNeg < 10 := by
  have hm := (ci_sheets hC).2.2
  have h1 := lt_ct h.1 (by omega)
  have h2 := lt_ct (m := 10) h.2 (by decide)
  have e1 := v_is h.1 (by omega)
  have e2 := v_is (m := 10) h.2 (by decide)
  have e : 10 * s + k = nI (10 * s.toNatClampNeg + k.toNatClampNeg) := by
    conv => lhs; rw [← e1, ← e2]
    exact ix10 _ _
  exact ⟨e, by rw [e, nI_clamp (by omega)], h1, h2⟩

theorem RB_big {w : AW} (h : RB w) {t i : Nat} {v : Int32} (ht : 1400 ≤ t) : RB (sA w t i v) := by
  have q := h
  unfold RB at *
  simp only [wI_sA, wA_sA, if_neg (show ¬ 145 = t by omega), if_neg (show ¬ 146 = t by omega), if_neg (show ¬ 128 = t by omega), if_neg (show ¬ 129 = t by omega), if_neg (show ¬ 138 = t by omega), if_neg (show ¬ 118 = t by omega), if_neg (show ¬ 126 = t by omega)]
  exact q
theorem RB_85 {w : AW} (h : RB w) {q i : Nat} {v : Int32} {y : Int64} : RB (sJ (sA w (1500 + q) i v) 222 0 y) := RB_big h (by omega)
theorem RB_86 {w : AW} (h : RB w) {q i : Nat} {v : Int32} {y : Int64} : RB (sJ (sA w (1600 + q) i v) 222 0 y) := RB_big h (by omega)
theorem RB_czr {w : AW} (h : RB w) {a b : Nat} (ha : 1400 ≤ a) : ∀ n, RB (czr w a b n)
  | 0 => h
  | n + 1 => RB_big (RB_czr h ha n) ha

theorem pr_tear {n : Nat} {w : AW} (h : Rel n w) (hn : n < 512) (p0 p1 : Int32) : sp_X11_tear [.ref 200, .int p0, .int p1] w (PRt ["java/lang/IndexOutOfBoundsException"] sp_X12_tear [.int p0, .int p1] n) := by
  have e0 : wI w 784 100 = nI (ct w 203) := h.c.2.2.1
  have IX := fun {s k : Int32} (hv : (0 ≤ s ∧ s < nI (ct w 203)) ∧ (0 ≤ k ∧ k < 10)) => ixr_is h.ci hv
  have e3 : ∀ {s k : Int32}, ((0 ≤ s ∧ s < nI (ct w 203)) ∧ (0 ≤ k ∧ k < 10)) → wA w 118 (10 * s + k).toNatClampNeg = wA w (1500 + s.toNatClampNeg) k.toNatClampNeg := fun hv => by rw [(IX hv).2.1]; exact (h.s.1 _ _ (IX hv).2.2.1 (IX hv).2.2.2).1
  rw [sq_X11_tear]
  refine ⟨h.ci, fun hc => ?_, fun hc => ?_, fun hc => ?_⟩
  · refine ⟨(by first | exact T222 | exact hR.o | exact h.o), 1, 0, OC.ex (by decide) (by decide) rfl, ?_⟩
    rw [oJ_1, sq_X12_tear, e0]
    exact ⟨⟨h.ri, h.rb⟩, (fun _ => ⟨0, rfl, rfl, fun z => absurd z (by decide), h.up.thr 1⟩), (by intro a; exfalso; first | exact absurd hc.1 a | exact absurd a.1 hc | exact absurd a hc | exact absurd hc a | exact absurd a.2 hc.2 | exact absurd hc.2 a.2 | grind | (obtain ⟨a1, a2⟩ := a; subst a2; exact absurd hc.2 (by decide)) | (obtain ⟨c1, c2⟩ := hc; subst c2; exact absurd a.2 (by decide))), (by intro a; exfalso; first | exact absurd hc.1 a | exact absurd a.1 hc | exact absurd a hc | exact absurd hc a | exact absurd a.2 hc.2 | exact absurd hc.2 a.2 | grind | (obtain ⟨a1, a2⟩ := a; subst a2; exact absurd hc.2 (by decide)) | (obtain ⟨c1, c2⟩ := hc; subst c2; exact absurd a.2 (by decide)))⟩
  · refine ⟨(by first | exact T222 | exact hR.o | exact h.o | (unfold RLo; rw [wT_czr, wN_czr]; exact h.o)), 0, _, OC.ok, ?_⟩
    rw [oJ_0, sq_X12_tear]
    simp only [wT_sI, wI_sI, wR_sI, wN_sI, wA_sI, wJ_sI, wP_sI, wL_sI, wT_sR, wI_sR, wR_sR, wN_sR, wA_sR, wJ_sR, wP_sR, wL_sR, wT_sA, wI_sA, wR_sA, wN_sA, wA_sA, wJ_sA, wP_sA, wL_sA, wT_sJ, wI_sJ, wR_sJ, wN_sJ, wA_sJ, wJ_sJ, wP_sJ, wL_sJ, wT_sP, wI_sP, wR_sP, wN_sP, wA_sP, wJ_sP, wP_sP, wL_sP, wT_sQ, wI_sQ, wR_sQ, wN_sQ, wA_sQ, wJ_sQ, wP_sQ, wL_sQ, wT_sL, wI_sL, wR_sL, wN_sL, wA_sL, wJ_sL, wP_sL, wL_sL, wT_sT, wI_sT, wR_sT, wN_sT, wA_sT, wJ_sT, wP_sT, wL_sT, wT_nO, wI_nO, wR_nO, wN_nO, wA_nO, wJ_nO, wP_nO, wL_nO, wT_nA, wI_nA, wR_nA, wN_nA, wA_nA, wJ_nA, wP_nA, wL_nA, Nat.reduceEqDiff, reduceIte, if_true, if_false, ne_85, ne_86]
    rw [e0]
    exact ⟨⟨h.ri, h.rb⟩, (by intro a; exfalso; first | exact absurd hc.1 a | exact absurd a.1 hc | exact absurd a hc | exact absurd hc a | exact absurd a.2 hc.2 | exact absurd hc.2 a.2 | grind | (obtain ⟨a1, a2⟩ := a; subst a2; exact absurd hc.2 (by decide)) | (obtain ⟨c1, c2⟩ := hc; subst c2; exact absurd a.2 (by decide))), (fun _ => ⟨_, rfl, rfl, fun _ => rfl, by rw [(IX hc.1).2.1, show sA (sI (sJ w 222 0 _) 768 100 0) 118 _ (-1) = sI (sJ w 222 0 _) 768 100 0 from (by have q := sA_id (sI (sJ w 222 0 (Int32.toInt64 0)) 768 100 0) 118 (10 * p0.toNatClampNeg + p1.toNatClampNeg); have q2 : wA (sI (sJ w 222 0 (Int32.toInt64 0)) 768 100 0) 118 (10 * p0.toNatClampNeg + p1.toNatClampNeg) = -1 := ((h.s.1 _ _ (IX hc.1).2.2.1 (IX hc.1).2.2.2).1).trans hc.2; rw [q2] at q; exact q)]; exact (h.up.out _).thr 0⟩), (by intro a; exfalso; first | exact absurd hc.1 a | exact absurd a.1 hc | exact absurd a hc | exact absurd hc a | exact absurd a.2 hc.2 | exact absurd hc.2 a.2 | grind | (obtain ⟨a1, a2⟩ := a; subst a2; exact absurd hc.2 (by decide)) | (obtain ⟨c1, c2⟩ := hc; subst c2; exact absurd a.2 (by decide)))⟩
  · refine ⟨(by first | exact T222 | exact hR.o | exact h.o | (unfold RLo; rw [wT_czr, wN_czr]; exact h.o)), 0, _, OC.ok, ?_⟩
    rw [oJ_0, sq_X12_tear]
    simp only [wT_sI, wI_sI, wR_sI, wN_sI, wA_sI, wJ_sI, wP_sI, wL_sI, wT_sR, wI_sR, wR_sR, wN_sR, wA_sR, wJ_sR, wP_sR, wL_sR, wT_sA, wI_sA, wR_sA, wN_sA, wA_sA, wJ_sA, wP_sA, wL_sA, wT_sJ, wI_sJ, wR_sJ, wN_sJ, wA_sJ, wJ_sJ, wP_sJ, wL_sJ, wT_sP, wI_sP, wR_sP, wN_sP, wA_sP, wJ_sP, wP_sP, wL_sP, wT_sQ, wI_sQ, wR_sQ, wN_sQ, wA_sQ, wJ_sQ, wP_sQ, wL_sQ, wT_sL, wI_sL, wR_sL, wN_sL, wA_sL, wJ_sL, wP_sL, wL_sL, wT_sT, wI_sT, wR_sT, wN_sT, wA_sT, wJ_sT, wP_sT, wL_sT, wT_nO, wI_nO, wR_nO, wN_nO, wA_nO, wJ_nO, wP_nO, wL_nO, wT_nA, wI_nA, wR_nA, wN_nA, wA_nA, wJ_nA, wP_nA, wL_nA, Nat.reduceEqDiff, reduceIte, if_true, if_false, ne_85, ne_86]
    rw [e0]
    exact ⟨⟨h.ri, RB_85 h.rb⟩, (by intro a; exfalso; first | exact absurd hc.1 a | exact absurd a.1 hc | exact absurd a hc | exact absurd hc a | exact absurd a.2 hc.2 | exact absurd hc.2 a.2 | grind | (obtain ⟨a1, a2⟩ := a; subst a2; exact absurd hc.2 (by decide)) | (obtain ⟨c1, c2⟩ := hc; subst c2; exact absurd a.2 (by decide))), (by intro a; exfalso; first | exact absurd hc.1 a | exact absurd a.1 hc | exact absurd a hc | exact absurd hc a | exact absurd a.2 hc.2 | exact absurd hc.2 a.2 | grind | (obtain ⟨a1, a2⟩ := a; subst a2; exact absurd hc.2 (by decide)) | (obtain ⟨c1, c2⟩ := hc; subst c2; exact absurd a.2 (by decide))), (fun _ => ⟨_, rfl, rfl, fun _ => rfl, by rw [(IX hc.1).2.1]; exact rl_tear h (IX hc.1).2.2.1 (IX hc.1).2.2.2⟩)⟩

theorem ixp_is {w : AW} {s k i : Int32} (h : ((0 ≤ s ∧ s < nI (ct w 203)) ∧ (0 ≤ k ∧ k < 10))) (hi : 0 ≤ i ∧ i < nI 24) (hC : CIv w) : (k * 24 + i).toNatClampNeg = 24 * k.toNatClampNeg + i.toNatClampNeg ∧ (24 * (10 * s + k) + i).toNatClampNeg = 24 * (10 * s.toNatClampNeg + k.toNatClampNeg) + i.toNatClampNeg ∧ i.toNatClampNeg < 24 := by
  have hm := (ci_sheets hC).2.2
  obtain ⟨e1, -, h1, h2⟩ := ixr_is hC h
  have h3 := lt_ct hi (by decide)
  have e3 := v_is hi (by decide)
  have e2 := v_is (m := 10) h.2 (by decide)
  have a1 : k * 24 + i = nI (24 * k.toNatClampNeg + i.toNatClampNeg) := by
    conv => lhs; rw [← e2, ← e3]
    show nI _ * nI 24 + nI _ = _
    rw [pk_mul, nI_add, Nat.mul_comm]
  have a2 : 24 * (10 * s + k) + i = nI (24 * (10 * s.toNatClampNeg + k.toNatClampNeg) + i.toNatClampNeg) := by
    rw [e1]
    conv => lhs; rw [← e3]
    show nI 24 * nI _ + nI _ = _
    rw [pk_mul, nI_add]
  exact ⟨by rw [a1, nI_clamp (by omega)], by rw [a2, nI_clamp (by omega)], h3⟩
theorem len24 {n : Nat} {w : AW} (h : Rel n w) (a b : Nat) (ha : a < ct w 203) (hb : b < 10) : wA w (1500 + a) b ≤ 24 := by
  have hm := (ci_sheets h.ci).2.2
  rw [← (h.s.1 a b ha hb).1]
  rcases rb_rowSize h.rb (10 * a + b) (by omega) with e | ⟨j, hj, e⟩
  · rw [e]; decide
  · rw [e]; exact (nI_leI (b := 24) (by omega) (by decide)).mpr hj

theorem pr_put {n : Nat} {w : AW} (h : Rel n w) (hn : n < 512) (p0 p1 p2 p3 : Int32) : sp_X11_put [.ref 200, .int p0, .int p1, .int p2, .int p3] w (PRt ["java/lang/IndexOutOfBoundsException"] sp_X12_put [.int p0, .int p1, .int p2, .int p3] n) := by
  have e0 : wI w 784 100 = nI (ct w 203) := h.c.2.2.1
  have IX := fun {s k : Int32} (hv : (0 ≤ s ∧ s < nI (ct w 203)) ∧ (0 ≤ k ∧ k < 10)) => ixr_is h.ci hv
  have e3 : ∀ {s k : Int32}, ((0 ≤ s ∧ s < nI (ct w 203)) ∧ (0 ≤ k ∧ k < 10)) → wA w 118 (10 * s + k).toNatClampNeg = wA w (1500 + s.toNatClampNeg) k.toNatClampNeg := fun hv => by rw [(IX hv).2.1]; exact (h.s.1 _ _ (IX hv).2.2.1 (IX hv).2.2.2).1
  have PX := fun (hc : ((0 ≤ p0 ∧ p0 < nI (ct w 203)) ∧ (0 ≤ p1 ∧ p1 < 10)) ∧ ¬ wA w (1500 + p0.toNatClampNeg) p1.toNatClampNeg = -1 ∧ (0 ≤ p2 ∧ p2 < wA w (1500 + p0.toNatClampNeg) p1.toNatClampNeg)) => ixp_is hc.1 ⟨hc.2.2.1, Int32.lt_of_lt_of_le hc.2.2.2 (len24 h _ _ (IX hc.1).2.2.1 (IX hc.1).2.2.2)⟩ h.ci
  rw [sq_X11_put]
  refine ⟨⟨h.ci, len24 h⟩, fun hc => ?_, fun hc => ?_, fun hc => ?_, fun hc => ?_⟩
  · refine ⟨(by first | exact T222 | exact hR.o | exact h.o), 1, 0, OC.ex (by decide) (by decide) rfl, ?_⟩
    rw [oJ_1, sq_X12_put, e0]
    exact ⟨⟨h.ri, h.rb⟩, (fun _ => ⟨0, rfl, rfl, fun z => absurd z (by decide), h.up.thr 1⟩), (by intro a; exfalso; first | exact absurd hc.1 a | exact absurd a.1 hc | exact absurd a hc | exact absurd hc a | exact absurd a.2 hc.2 | exact absurd hc.2 a.2 | grind | (obtain ⟨a1, a2⟩ := a; subst a2; exact absurd hc.2 (by decide)) | (obtain ⟨c1, c2⟩ := hc; subst c2; exact absurd a.2 (by decide))), (by intro a; exfalso; first | exact absurd hc.1 a | exact absurd a.1 hc | exact absurd a hc | exact absurd hc a | exact absurd a.2 hc.2 | exact absurd hc.2 a.2 | grind | (obtain ⟨a1, a2⟩ := a; subst a2; exact absurd hc.2 (by decide)) | (obtain ⟨c1, c2⟩ := hc; subst c2; exact absurd a.2 (by decide))), (by intro a; exfalso; first | exact absurd hc.1 a | exact absurd a.1 hc | exact absurd a hc | exact absurd hc a | exact absurd a.2 hc.2 | exact absurd hc.2 a.2 | grind | (obtain ⟨a1, a2⟩ := a; subst a2; exact absurd hc.2 (by decide)) | (obtain ⟨c1, c2⟩ := hc; subst c2; exact absurd a.2 (by decide)))⟩
  · refine ⟨(by first | exact T222 | exact hR.o | exact h.o | (unfold RLo; rw [wT_czr, wN_czr]; exact h.o)), 0, _, OC.ok, ?_⟩
    rw [oJ_0, sq_X12_put]
    simp only [wT_sI, wI_sI, wR_sI, wN_sI, wA_sI, wJ_sI, wP_sI, wL_sI, wT_sR, wI_sR, wR_sR, wN_sR, wA_sR, wJ_sR, wP_sR, wL_sR, wT_sA, wI_sA, wR_sA, wN_sA, wA_sA, wJ_sA, wP_sA, wL_sA, wT_sJ, wI_sJ, wR_sJ, wN_sJ, wA_sJ, wJ_sJ, wP_sJ, wL_sJ, wT_sP, wI_sP, wR_sP, wN_sP, wA_sP, wJ_sP, wP_sP, wL_sP, wT_sQ, wI_sQ, wR_sQ, wN_sQ, wA_sQ, wJ_sQ, wP_sQ, wL_sQ, wT_sL, wI_sL, wR_sL, wN_sL, wA_sL, wJ_sL, wP_sL, wL_sL, wT_sT, wI_sT, wR_sT, wN_sT, wA_sT, wJ_sT, wP_sT, wL_sT, wT_nO, wI_nO, wR_nO, wN_nO, wA_nO, wJ_nO, wP_nO, wL_nO, wT_nA, wI_nA, wR_nA, wN_nA, wA_nA, wJ_nA, wP_nA, wL_nA, Nat.reduceEqDiff, reduceIte, if_true, if_false, ne_85, ne_86]
    rw [e0]
    exact ⟨⟨h.ri, h.rb⟩, (by intro a; exfalso; first | exact absurd hc.1 a | exact absurd a.1 hc | exact absurd a hc | exact absurd hc a | exact absurd a.2 hc.2 | exact absurd hc.2 a.2 | grind | (obtain ⟨a1, a2⟩ := a; subst a2; exact absurd hc.2 (by decide)) | (obtain ⟨c1, c2⟩ := hc; subst c2; exact absurd a.2 (by decide))), (fun _ => ⟨_, rfl, rfl, fun _ => rfl, (h.up.out _).thr 0⟩), (by intro a; exfalso; first | exact absurd hc.1 a | exact absurd a.1 hc | exact absurd a hc | exact absurd hc a | exact absurd a.2 hc.2 | exact absurd hc.2 a.2 | grind | (obtain ⟨a1, a2⟩ := a; subst a2; exact absurd hc.2 (by decide)) | (obtain ⟨c1, c2⟩ := hc; subst c2; exact absurd a.2 (by decide))), (by intro a; exfalso; first | exact absurd hc.1 a | exact absurd a.1 hc | exact absurd a hc | exact absurd hc a | exact absurd a.2 hc.2 | exact absurd hc.2 a.2 | grind | (obtain ⟨a1, a2⟩ := a; subst a2; exact absurd hc.2 (by decide)) | (obtain ⟨c1, c2⟩ := hc; subst c2; exact absurd a.2 (by decide)))⟩
  · refine ⟨(by first | exact T222 | exact hR.o | exact h.o | (unfold RLo; rw [wT_czr, wN_czr]; exact h.o)), 0, _, OC.ok, ?_⟩
    rw [oJ_0, sq_X12_put]
    simp only [wT_sI, wI_sI, wR_sI, wN_sI, wA_sI, wJ_sI, wP_sI, wL_sI, wT_sR, wI_sR, wR_sR, wN_sR, wA_sR, wJ_sR, wP_sR, wL_sR, wT_sA, wI_sA, wR_sA, wN_sA, wA_sA, wJ_sA, wP_sA, wL_sA, wT_sJ, wI_sJ, wR_sJ, wN_sJ, wA_sJ, wJ_sJ, wP_sJ, wL_sJ, wT_sP, wI_sP, wR_sP, wN_sP, wA_sP, wJ_sP, wP_sP, wL_sP, wT_sQ, wI_sQ, wR_sQ, wN_sQ, wA_sQ, wJ_sQ, wP_sQ, wL_sQ, wT_sL, wI_sL, wR_sL, wN_sL, wA_sL, wJ_sL, wP_sL, wL_sL, wT_sT, wI_sT, wR_sT, wN_sT, wA_sT, wJ_sT, wP_sT, wL_sT, wT_nO, wI_nO, wR_nO, wN_nO, wA_nO, wJ_nO, wP_nO, wL_nO, wT_nA, wI_nA, wR_nA, wN_nA, wA_nA, wJ_nA, wP_nA, wL_nA, Nat.reduceEqDiff, reduceIte, if_true, if_false, ne_85, ne_86]
    rw [e0]
    exact ⟨⟨h.ri, h.rb⟩, (by intro a; exfalso; first | exact absurd hc.1 a | exact absurd a.1 hc | exact absurd a hc | exact absurd hc a | exact absurd a.2 hc.2 | exact absurd hc.2 a.2 | grind | (obtain ⟨a1, a2⟩ := a; subst a2; exact absurd hc.2 (by decide)) | (obtain ⟨c1, c2⟩ := hc; subst c2; exact absurd a.2 (by decide))), (by intro a; exfalso; first | exact absurd hc.1 a | exact absurd a.1 hc | exact absurd a hc | exact absurd hc a | exact absurd a.2 hc.2 | exact absurd hc.2 a.2 | grind | (obtain ⟨a1, a2⟩ := a; subst a2; exact absurd hc.2 (by decide)) | (obtain ⟨c1, c2⟩ := hc; subst c2; exact absurd a.2 (by decide))), (fun _ => ⟨_, rfl, rfl, fun _ => rfl, (h.up.out _).thr 0⟩), (by intro a; exfalso; first | exact absurd hc.1 a | exact absurd a.1 hc | exact absurd a hc | exact absurd hc a | exact absurd a.2 hc.2 | exact absurd hc.2 a.2 | grind | (obtain ⟨a1, a2⟩ := a; subst a2; exact absurd hc.2 (by decide)) | (obtain ⟨c1, c2⟩ := hc; subst c2; exact absurd a.2 (by decide)))⟩
  · refine ⟨(by first | exact T222 | exact hR.o | exact h.o | (unfold RLo; rw [wT_czr, wN_czr]; exact h.o)), 0, _, OC.ok, ?_⟩
    rw [oJ_0, sq_X12_put]
    simp only [wT_sI, wI_sI, wR_sI, wN_sI, wA_sI, wJ_sI, wP_sI, wL_sI, wT_sR, wI_sR, wR_sR, wN_sR, wA_sR, wJ_sR, wP_sR, wL_sR, wT_sA, wI_sA, wR_sA, wN_sA, wA_sA, wJ_sA, wP_sA, wL_sA, wT_sJ, wI_sJ, wR_sJ, wN_sJ, wA_sJ, wJ_sJ, wP_sJ, wL_sJ, wT_sP, wI_sP, wR_sP, wN_sP, wA_sP, wJ_sP, wP_sP, wL_sP, wT_sQ, wI_sQ, wR_sQ, wN_sQ, wA_sQ, wJ_sQ, wP_sQ, wL_sQ, wT_sL, wI_sL, wR_sL, wN_sL, wA_sL, wJ_sL, wP_sL, wL_sL, wT_sT, wI_sT, wR_sT, wN_sT, wA_sT, wJ_sT, wP_sT, wL_sT, wT_nO, wI_nO, wR_nO, wN_nO, wA_nO, wJ_nO, wP_nO, wL_nO, wT_nA, wI_nA, wR_nA, wN_nA, wA_nA, wJ_nA, wP_nA, wL_nA, Nat.reduceEqDiff, reduceIte, if_true, if_false, ne_85, ne_86]
    rw [e0]
    exact ⟨⟨h.ri, RB_86 h.rb⟩, (by intro a; exfalso; first | exact absurd hc.1 a | exact absurd a.1 hc | exact absurd a hc | exact absurd hc a | exact absurd a.2 hc.2 | exact absurd hc.2 a.2 | grind | (obtain ⟨a1, a2⟩ := a; subst a2; exact absurd hc.2 (by decide)) | (obtain ⟨c1, c2⟩ := hc; subst c2; exact absurd a.2 (by decide))), (by intro a; exfalso; first | exact absurd hc.1 a | exact absurd a.1 hc | exact absurd a hc | exact absurd hc a | exact absurd a.2 hc.2 | exact absurd hc.2 a.2 | grind | (obtain ⟨a1, a2⟩ := a; subst a2; exact absurd hc.2 (by decide)) | (obtain ⟨c1, c2⟩ := hc; subst c2; exact absurd a.2 (by decide))), (by intro a; exfalso; first | exact absurd hc.1 a | exact absurd a.1 hc | exact absurd a hc | exact absurd hc a | exact absurd a.2 hc.2 | exact absurd hc.2 a.2 | grind | (obtain ⟨a1, a2⟩ := a; subst a2; exact absurd hc.2 (by decide)) | (obtain ⟨c1, c2⟩ := hc; subst c2; exact absurd a.2 (by decide))), (fun _ => ⟨_, rfl, rfl, fun _ => rfl, by rw [(PX hc).1, (PX hc).2.1]; exact rl_put h (IX hc.1).2.2.1 (IX hc.1).2.2.2 (PX hc).2.2⟩)⟩

theorem pr_row {n : Nat} {w : AW} (h : Rel n w) (hn : n < 512) (p0 p1 p2 : Int32) : sp_X11_row [.ref 200, .int p0, .int p1, .int p2] w (PRt ["java/lang/IndexOutOfBoundsException"] sp_X12_row [.int p0, .int p1, .int p2] n) := by
  have e0 : wI w 784 100 = nI (ct w 203) := h.c.2.2.1
  have IX := fun {s k : Int32} (hv : (0 ≤ s ∧ s < nI (ct w 203)) ∧ (0 ≤ k ∧ k < 10)) => ixr_is h.ci hv
  have e3 : ∀ {s k : Int32}, ((0 ≤ s ∧ s < nI (ct w 203)) ∧ (0 ≤ k ∧ k < 10)) → wA w 118 (10 * s + k).toNatClampNeg = wA w (1500 + s.toNatClampNeg) k.toNatClampNeg := fun hv => by rw [(IX hv).2.1]; exact (h.s.1 _ _ (IX hv).2.2.1 (IX hv).2.2.2).1
  have RX : (0 ≤ p2 ∧ p2 ≤ 24) → nI p2.toNatClampNeg = p2 ∧ p2.toNatClampNeg ≤ 24 := fun hv => by
    obtain ⟨j, hj, e⟩ := in_le (n := 24) hv rfl
    rw [e, nI_clamp (by omega)]; exact ⟨rfl, hj⟩
  rw [sq_X11_row]
  refine ⟨h.ci, fun hc => ?_, fun hc => ?_, fun hc => ?_⟩
  · refine ⟨(by first | exact T222 | exact hR.o | exact h.o), 1, 0, OC.ex (by decide) (by decide) rfl, ?_⟩
    rw [oJ_1, sq_X12_row, e0]
    exact ⟨⟨h.ri, h.rb⟩, (fun _ => ⟨0, rfl, rfl, fun z => absurd z (by decide), h.up.thr 1⟩), (by intro a; exfalso; first | exact absurd hc.1 a | exact absurd a.1 hc | exact absurd a hc | exact absurd hc a | exact absurd a.2 hc.2 | exact absurd hc.2 a.2 | grind | (obtain ⟨a1, a2⟩ := a; subst a2; exact absurd hc.2 (by decide)) | (obtain ⟨c1, c2⟩ := hc; subst c2; exact absurd a.2 (by decide))), (by intro a; exfalso; first | exact absurd hc.1 a | exact absurd a.1 hc | exact absurd a hc | exact absurd hc a | exact absurd a.2 hc.2 | exact absurd hc.2 a.2 | grind | (obtain ⟨a1, a2⟩ := a; subst a2; exact absurd hc.2 (by decide)) | (obtain ⟨c1, c2⟩ := hc; subst c2; exact absurd a.2 (by decide)))⟩
  · refine ⟨(by first | exact T222 | exact hR.o | exact h.o | (unfold RLo; rw [wT_czr, wN_czr]; exact h.o)), 0, _, OC.ok, ?_⟩
    rw [oJ_0, sq_X12_row]
    simp only [wT_sI, wI_sI, wR_sI, wN_sI, wA_sI, wJ_sI, wP_sI, wL_sI, wT_sR, wI_sR, wR_sR, wN_sR, wA_sR, wJ_sR, wP_sR, wL_sR, wT_sA, wI_sA, wR_sA, wN_sA, wA_sA, wJ_sA, wP_sA, wL_sA, wT_sJ, wI_sJ, wR_sJ, wN_sJ, wA_sJ, wJ_sJ, wP_sJ, wL_sJ, wT_sP, wI_sP, wR_sP, wN_sP, wA_sP, wJ_sP, wP_sP, wL_sP, wT_sQ, wI_sQ, wR_sQ, wN_sQ, wA_sQ, wJ_sQ, wP_sQ, wL_sQ, wT_sL, wI_sL, wR_sL, wN_sL, wA_sL, wJ_sL, wP_sL, wL_sL, wT_sT, wI_sT, wR_sT, wN_sT, wA_sT, wJ_sT, wP_sT, wL_sT, wT_nO, wI_nO, wR_nO, wN_nO, wA_nO, wJ_nO, wP_nO, wL_nO, wT_nA, wI_nA, wR_nA, wN_nA, wA_nA, wJ_nA, wP_nA, wL_nA, Nat.reduceEqDiff, reduceIte, if_true, if_false, wI_czr, ne_85, ne_86]
    rw [e0]
    exact ⟨⟨h.ri, h.rb⟩, (by intro a; exfalso; first | exact absurd hc.1 a | exact absurd a.1 hc | exact absurd a hc | exact absurd hc a | exact absurd a.2 hc.2 | exact absurd hc.2 a.2 | grind | (obtain ⟨a1, a2⟩ := a; subst a2; exact absurd hc.2 (by decide)) | (obtain ⟨c1, c2⟩ := hc; subst c2; exact absurd a.2 (by decide))), (fun _ => ⟨_, rfl, rfl, fun _ => rfl, (h.up.out _).thr 0⟩), (by intro a; exfalso; first | exact absurd hc.1 a | exact absurd a.1 hc | exact absurd a hc | exact absurd hc a | exact absurd a.2 hc.2 | exact absurd hc.2 a.2 | grind | (obtain ⟨a1, a2⟩ := a; subst a2; exact absurd hc.2 (by decide)) | (obtain ⟨c1, c2⟩ := hc; subst c2; exact absurd a.2 (by decide)))⟩
  · refine ⟨(by first | exact T222 | exact hR.o | exact h.o | (unfold RLo; rw [wT_czr, wN_czr]; exact h.o)), 0, _, OC.ok, ?_⟩
    rw [oJ_0, sq_X12_row]
    simp only [wT_sI, wI_sI, wR_sI, wN_sI, wA_sI, wJ_sI, wP_sI, wL_sI, wT_sR, wI_sR, wR_sR, wN_sR, wA_sR, wJ_sR, wP_sR, wL_sR, wT_sA, wI_sA, wR_sA, wN_sA, wA_sA, wJ_sA, wP_sA, wL_sA, wT_sJ, wI_sJ, wR_sJ, wN_sJ, wA_sJ, wJ_sJ, wP_sJ, wL_sJ, wT_sP, wI_sP, wR_sP, wN_sP, wA_sP, wJ_sP, wP_sP, wL_sP, wT_sQ, wI_sQ, wR_sQ, wN_sQ, wA_sQ, wJ_sQ, wP_sQ, wL_sQ, wT_sL, wI_sL, wR_sL, wN_sL, wA_sL, wJ_sL, wP_sL, wL_sL, wT_sT, wI_sT, wR_sT, wN_sT, wA_sT, wJ_sT, wP_sT, wL_sT, wT_nO, wI_nO, wR_nO, wN_nO, wA_nO, wJ_nO, wP_nO, wL_nO, wT_nA, wI_nA, wR_nA, wN_nA, wA_nA, wJ_nA, wP_nA, wL_nA, Nat.reduceEqDiff, reduceIte, if_true, if_false, wI_czr, ne_85, ne_86]
    rw [e0]
    exact ⟨⟨by have q := h.ri; unfold RI at *; simp only [wT_sJ, wR_sJ, wN_sJ, wT_czr, wR_czr, wN_czr, wT_sA, wR_sA, wN_sA]; exact q, RB_czr (RB_big h.rb (by omega)) (by omega) _⟩, (by intro a; exfalso; first | exact absurd hc.1 a | exact absurd a.1 hc | exact absurd a hc | exact absurd hc a | exact absurd a.2 hc.2 | exact absurd hc.2 a.2 | grind | (obtain ⟨a1, a2⟩ := a; subst a2; exact absurd hc.2 (by decide)) | (obtain ⟨c1, c2⟩ := hc; subst c2; exact absurd a.2 (by decide))), (by intro a; exfalso; first | exact absurd hc.1 a | exact absurd a.1 hc | exact absurd a hc | exact absurd hc a | exact absurd a.2 hc.2 | exact absurd hc.2 a.2 | grind | (obtain ⟨a1, a2⟩ := a; subst a2; exact absurd hc.2 (by decide)) | (obtain ⟨c1, c2⟩ := hc; subst c2; exact absurd a.2 (by decide))), (fun _ => ⟨_, rfl, rfl, fun _ => rfl, by rw [(IX hc.1).2.1]; have q := rl_row h (y := p2.toInt64) (IX hc.1).2.2.1 (IX hc.1).2.2.2 (m := p2.toNatClampNeg) (RX hc.2).2; rw [(RX hc.2).1] at q; exact q⟩)⟩

theorem CIv_air {w : AW} {r q : Nat} {k : Int32} (h : CIv w) (hq : q < ct w 203) (hk : vp_in k 10) : CIv (sI (sR w 518 (1200 + r) (some (1400 + q))) 519 (1200 + r) k) := by
  have hBK := ci_BK h
  have hHG := ci_HG h
  refine ⟨h.1, h.2.1, h.2.2.1, h.2.2.2.1, fun r' hr' => ?_, h.2.2.2.2.2.1, h.2.2.2.2.2.2.1, h.2.2.2.2.2.2.2.1, hBK, ⟨hHG.1, fun q hq => ?_⟩⟩
  rotate_left
  · obtain ⟨a, b, c⟩ := hHG.2 q hq
    have z : ∀ q ∈ HGl, q.1 ≠ 518 := by decide
    refine ⟨?_, b, c⟩
    show wR (sR w 518 _ _) q.1 208 = _
    rw [wR_sR, if_neg (z q hq)]; exact a
  have c5 := h.2.2.2.2.1
  obtain ⟨d1, d2, d3, d4, d5, d6⟩ := c5 r' hr'
  refine ⟨d1, d2, d3, d4, ?_, ?_⟩
  · show (sR w 518 (1200 + r) (some (1400 + q))).2.2.1 518 (1200 + r') = none ∨ ∃ q', q' < ct w 203 ∧ (sR w 518 (1200 + r) (some (1400 + q))).2.2.1 518 (1200 + r') = some (1400 + q')
    show wR (sR w 518 (1200 + r) (some (1400 + q))) 518 (1200 + r') = none ∨ ∃ q', q' < ct w 203 ∧ wR (sR w 518 (1200 + r) (some (1400 + q))) 518 (1200 + r') = some (1400 + q')
    rw [wR_sR, if_pos rfl]
    split
    · exact Or.inr ⟨q, hq, rfl⟩
    · exact d5
  · show vp_in (wI (sI (sR w 518 (1200 + r) (some (1400 + q))) 519 (1200 + r) k) 519 (1200 + r')) 10
    rw [wI_sI, if_pos rfl]
    split
    · exact hk
    · exact d6
theorem CIv_thr (w : AW) (v : Int32) : CIv (sI w 768 100 v) = CIv w := rfl
theorem CIv_out (w : AW) (v : Int64) : CIv (sJ w 222 0 v) = CIv w := rfl
theorem RI.oR {w : AW} (h : RI w) {k i : Nat} {v : Option Nat} (hk : k < 768) : RI (sR w k i v) := by
  refine ⟨h.1, fun q hq => ?_⟩
  obtain ⟨a, b⟩ := h.2 q hq
  refine ⟨?_, b⟩
  rw [wR_sR, if_neg (by omega)]; exact a
set_option maxHeartbeats 2000000 in
theorem rl_air {n : Nat} {w : AW} (h : Rel n w) {r q k : Nat} {y : Int64} (hr : r < ct w 202) (hq : q < ct w 203) (hk : k < 10) : Rel (n + 1) (sA (sI (sJ (sI (sR w 518 (1200 + r) (some (1400 + q))) 519 (1200 + r) (nI k)) 222 0 y) 768 100 0) 126 r (nI (10 * q + k))) := by
  have hm := (ci_sheets h.ci).2.2
  refine ⟨(by rw [CIv_sA, CIv_thr, CIv_out]; exact CIv_air h.ci hq (vp_in_nI hk (by decide))), RI.oR h.ri (by decide), ?_, h.up.c, h.up.wk, h.up.l, h.up.r, h.up.k, h.up.u, ?_, ?_, h.up.g, h.up.d, h.up.n, h.up.m, h.up.t, h.up.b, h.up.f, h.up.v, h.up.z, h.up.o⟩
  · obtain ⟨q1, q2, q3, q4, q5, q6, q7, q8, q9, q10, q11, q12, q13, q14, q15⟩ := h.rb
    refine ⟨q1, q2, q3, q4, q5, q6, q7, q8, q9, q10, q11, q12, q13, q14, fun j hj => ?_⟩
    rw [wA_sA, if_pos rfl]
    split
    · exact Or.inr ⟨10 * q + k, by omega, rfl⟩
    · exact q15 j hj
  · exact RLs.lit (RLs.oI (RLs.oJ (RLs.oI (RLs.oR (h.s))))) (by decide) (by decide) (by decide)
  · intro r' hr'
    have a := h.a r' hr'
    simp only [wT_sI, wI_sI, wR_sI, wN_sI, wA_sI, wJ_sI, wP_sI, wL_sI, wT_sR, wI_sR, wR_sR, wN_sR, wA_sR, wJ_sR, wP_sR, wL_sR, wT_sA, wI_sA, wR_sA, wN_sA, wA_sA, wJ_sA, wP_sA, wL_sA, wT_sJ, wI_sJ, wR_sJ, wN_sJ, wA_sJ, wJ_sJ, wP_sJ, wL_sJ, wT_sP, wI_sP, wR_sP, wN_sP, wA_sP, wJ_sP, wP_sP, wL_sP, wT_sQ, wI_sQ, wR_sQ, wN_sQ, wA_sQ, wJ_sQ, wP_sQ, wL_sQ, wT_sL, wI_sL, wR_sL, wN_sL, wA_sL, wJ_sL, wP_sL, wL_sL, wT_sT, wI_sT, wR_sT, wN_sT, wA_sT, wJ_sT, wP_sT, wL_sT, wT_nO, wI_nO, wR_nO, wN_nO, wA_nO, wJ_nO, wP_nO, wL_nO, wT_nA, wI_nA, wR_nA, wN_nA, wA_nA, wJ_nA, wP_nA, wL_nA, Nat.reduceEqDiff, reduceIte, if_true, if_false]
    by_cases e : r' = r
    · subst e
      rw [if_pos rfl, if_pos rfl, if_pos rfl]
      exact Or.inr ⟨q, k, hq, hk, rfl, rfl, rfl⟩
    · simp only [if_neg e, if_neg (show ¬ 1200 + r' = 1200 + r by omega)]
      exact a

theorem pr_air {n : Nat} {w : AW} (h : Rel n w) (hn : n < 512) (p0 p1 p2 : Int32) : sp_X11_air [.ref 200, .int p0, .int p1, .int p2] w (PRt ["java/util/NoSuchElementException", "java/lang/IndexOutOfBoundsException"] sp_X12_air [.int p0, .int p1, .int p2] n) := by
  have e0 : wI w 787 100 = nI (ct w 202) := h.c.2.1
  have hm := (ci_rooms h.ci).2.2
  have A0 : ∀ {v : Int32}, (0 ≤ v ∧ v < nI (ct w 202)) → v.toNatClampNeg < ct w 202 := fun hv => lt_ct hv (by omega)
  have B0 : ∀ {v : Int32}, (0 ≤ v ∧ v < nI (ct w 202)) → nI v.toNatClampNeg = v := fun hv => v_is hv (by omega)
  have e9 : wI w 784 100 = nI (ct w 203) := h.c.2.2.1
  have IX := fun {s k : Int32} (hv : (0 ≤ s ∧ s < nI (ct w 203)) ∧ (0 ≤ k ∧ k < 10)) => ixr_is h.ci hv
  have e3 : ∀ {s k : Int32}, ((0 ≤ s ∧ s < nI (ct w 203)) ∧ (0 ≤ k ∧ k < 10)) → wA w 118 (10 * s + k).toNatClampNeg = wA w (1500 + s.toNatClampNeg) k.toNatClampNeg := fun hv => by rw [(IX hv).2.1]; exact (h.s.1 _ _ (IX hv).2.2.1 (IX hv).2.2.2).1
  rw [sq_X11_air]
  refine ⟨h.ci, fun hc => ?_, fun hc => ?_, fun hc => ?_⟩
  · refine ⟨(by first | exact T222 | exact hR.o | exact h.o), 1, 0, OC.ex (by decide) (by decide) rfl, ?_⟩
    rw [oJ_1, sq_X12_air, e0, e9]
    exact ⟨⟨h.ri, h.rb⟩, (fun _ => ⟨0, rfl, rfl, fun z => absurd z (by decide), h.up.thr 1⟩), (by intro a; exfalso; first | exact absurd hc.1 a | exact absurd a.1 hc | exact absurd a hc | exact absurd hc a | exact absurd a.2 hc.2 | exact absurd hc.2 a.2 | grind | (obtain ⟨a1, a2⟩ := a; subst a2; exact absurd hc.2 (by decide)) | (obtain ⟨c1, c2⟩ := hc; subst c2; exact absurd a.2 (by decide))), (by intro a; exfalso; first | exact absurd hc.1 a | exact absurd a.1 hc | exact absurd a hc | exact absurd hc a | exact absurd a.2 hc.2 | exact absurd hc.2 a.2 | grind | (obtain ⟨a1, a2⟩ := a; subst a2; exact absurd hc.2 (by decide)) | (obtain ⟨c1, c2⟩ := hc; subst c2; exact absurd a.2 (by decide)))⟩
  · refine ⟨(by first | exact T222 | exact hR.o | exact h.o), 2, 0, OC.ex (by decide) (by decide) rfl, ?_⟩
    rw [oJ_2, sq_X12_air, e0, e9]
    exact ⟨⟨h.ri, h.rb⟩, (by intro a; exfalso; first | exact absurd hc.1 a | exact absurd a.1 hc | exact absurd a hc | exact absurd hc a | exact absurd a.2 hc.2 | exact absurd hc.2 a.2 | grind | (obtain ⟨a1, a2⟩ := a; subst a2; exact absurd hc.2 (by decide)) | (obtain ⟨c1, c2⟩ := hc; subst c2; exact absurd a.2 (by decide))), (fun _ => ⟨0, rfl, rfl, fun z => absurd z (by decide), h.up.thr 2⟩), (by intro a; exfalso; first | exact absurd hc.1 a | exact absurd a.1 hc | exact absurd a hc | exact absurd hc a | exact absurd a.2 hc.2 | exact absurd hc.2 a.2 | grind | (obtain ⟨a1, a2⟩ := a; subst a2; exact absurd hc.2 (by decide)) | (obtain ⟨c1, c2⟩ := hc; subst c2; exact absurd a.2 (by decide)))⟩
  · refine ⟨(by first | exact T222 | exact hR.o | exact h.o | (unfold RLo; rw [wT_czr, wN_czr]; exact h.o)), 0, _, OC.ok, ?_⟩
    rw [oJ_0, sq_X12_air]
    simp only [wT_sI, wI_sI, wR_sI, wN_sI, wA_sI, wJ_sI, wP_sI, wL_sI, wT_sR, wI_sR, wR_sR, wN_sR, wA_sR, wJ_sR, wP_sR, wL_sR, wT_sA, wI_sA, wR_sA, wN_sA, wA_sA, wJ_sA, wP_sA, wL_sA, wT_sJ, wI_sJ, wR_sJ, wN_sJ, wA_sJ, wJ_sJ, wP_sJ, wL_sJ, wT_sP, wI_sP, wR_sP, wN_sP, wA_sP, wJ_sP, wP_sP, wL_sP, wT_sQ, wI_sQ, wR_sQ, wN_sQ, wA_sQ, wJ_sQ, wP_sQ, wL_sQ, wT_sL, wI_sL, wR_sL, wN_sL, wA_sL, wJ_sL, wP_sL, wL_sL, wT_sT, wI_sT, wR_sT, wN_sT, wA_sT, wJ_sT, wP_sT, wL_sT, wT_nO, wI_nO, wR_nO, wN_nO, wA_nO, wJ_nO, wP_nO, wL_nO, wT_nA, wI_nA, wR_nA, wN_nA, wA_nA, wJ_nA, wP_nA, wL_nA, Nat.reduceEqDiff, reduceIte, if_true, if_false]
    rw [e0, e9]
    exact ⟨⟨RI.oR h.ri (by decide), h.rb⟩, (by intro a; exfalso; first | exact absurd hc.1 a | exact absurd a.1 hc | exact absurd a hc | exact absurd hc a | exact absurd a.2 hc.2 | exact absurd hc.2 a.2 | grind | (obtain ⟨a1, a2⟩ := a; subst a2; exact absurd hc.2 (by decide)) | (obtain ⟨c1, c2⟩ := hc; subst c2; exact absurd a.2 (by decide))), (by intro a; exfalso; first | exact absurd hc.1 a | exact absurd a.1 hc | exact absurd a hc | exact absurd hc a | exact absurd a.2 hc.2 | exact absurd hc.2 a.2 | grind | (obtain ⟨a1, a2⟩ := a; subst a2; exact absurd hc.2 (by decide)) | (obtain ⟨c1, c2⟩ := hc; subst c2; exact absurd a.2 (by decide))), (fun _ => ⟨_, rfl, rfl, fun _ => rfl, by have q := rl_air h (y := Int32.toInt64 1) (A0 hc.1) (IX hc.2).2.2.1 (IX hc.2).2.2.2; rw [← (IX hc.2).1, v_is (m := 10) hc.2.2 (by decide)] at q; exact q⟩)⟩

