theorem oJ_0 (y : Int32) (u : AW) : oJ 0 y u = sJ u 222 0 y.toInt64 := rfl
theorem oJ_1 (y : Int32) (u : AW) : oJ 1 y u = u := rfl
theorem oJ_2 (y : Int32) (u : AW) : oJ 2 y u = u := rfl
theorem RLs.fr {u w : AW} (h : RLs w) (hL : wL u 203 = wL w 203) (h1 : wA u 118 = wA w 118) (h2 : wA u 119 = wA w 119) (h5 : ∀ q, q < 4 → wA u (1500 + q) = wA w (1500 + q)) (h6 : ∀ q, q < 4 → wA u (1600 + q) = wA w (1600 + q)) (h4 : ct w 203 ≤ 4) : RLs u := by
  have e : ct u 203 = ct w 203 := congrArg List.length hL
  unfold RLs at *
  rw [e, h1, h2]
  refine ⟨fun q k hq hk => ?_, h.2⟩
  rw [h5 q (by omega), h6 q (by omega)]
  exact h.1 q k hq hk
theorem wA_lit {w : AW} {t i q : Nat} {v : Int32} (h : t < q) : wA (sA w t i v) q = wA w q := by
  funext x; rw [wA_sA, if_neg (by omega)]
theorem RLs.lit {w : AW} (h : RLs w) {t i : Nat} {v : Int32} (ht : t < 1400) (h1 : 118 ≠ t) (h2 : 119 ≠ t) : RLs (sA w t i v) := by
  unfold RLs at *
  refine ⟨fun q k hq hk => ?_, fun j a b => ?_⟩
  · rw [wA_lit (q := 1500 + q) (by omega), wA_lit (q := 1600 + q) (by omega), wA_sA, if_neg h1]
    refine ⟨(h.1 q k hq hk).1, fun i a b => ?_⟩
    rw [wA_sA, if_neg h2]
    exact (h.1 q k hq hk).2 i a b
  · rw [wA_sA, if_neg h1]
    exact h.2 j a b
theorem RLs.oI {w : AW} (h : RLs w) {k i : Nat} {v : Int32} : RLs (sI w k i v) := h
theorem RLs.oJ {w : AW} (h : RLs w) {k i : Nat} {v : Int64} : RLs (sJ w k i v) := h
theorem RLs.oR {w : AW} (h : RLs w) {k i : Nat} {v : Option Nat} : RLs (sR w k i v) := h
theorem rl_gain {n : Nat} {w : AW} (h : Rel n w) {c u g : Int32} {y : Int64} (hc : 0 ≤ c ∧ c ≤ 4) : Rel (n + 1) (sA (sA (sI (sJ (sA (sA w 210 c.toNatClampNeg u) 211 c.toNatClampNeg g) 222 0 y) 768 100 0) 158 c.toNatClampNeg u) 159 c.toNatClampNeg g) := by
  refine ⟨h.up.ci, h.up.ri, h.up.rb, h.up.c, h.up.wk, h.up.l, h.up.r, h.up.k, ?_, ?_, h.up.a, h.up.g, h.up.d, h.up.n, h.up.m, h.up.t, h.up.b, h.up.f, h.up.v, h.up.z, h.up.o⟩
  · intro i hi
    have q := h.u i hi
    simp only [wT_sI, wI_sI, wR_sI, wN_sI, wA_sI, wJ_sI, wP_sI, wL_sI, wT_sR, wI_sR, wR_sR, wN_sR, wA_sR, wJ_sR, wP_sR, wL_sR, wT_sA, wI_sA, wR_sA, wN_sA, wA_sA, wJ_sA, wP_sA, wL_sA, wT_sJ, wI_sJ, wR_sJ, wN_sJ, wA_sJ, wJ_sJ, wP_sJ, wL_sJ, wT_sP, wI_sP, wR_sP, wN_sP, wA_sP, wJ_sP, wP_sP, wL_sP, wT_sQ, wI_sQ, wR_sQ, wN_sQ, wA_sQ, wJ_sQ, wP_sQ, wL_sQ, wT_sL, wI_sL, wR_sL, wN_sL, wA_sL, wJ_sL, wP_sL, wL_sL, wT_sT, wI_sT, wR_sT, wN_sT, wA_sT, wJ_sT, wP_sT, wL_sT, wT_nO, wI_nO, wR_nO, wN_nO, wA_nO, wJ_nO, wP_nO, wL_nO, wT_nA, wI_nA, wR_nA, wN_nA, wA_nA, wJ_nA, wP_nA, wL_nA, Nat.reduceEqDiff, reduceIte, if_true, if_false]
    exact ⟨by split <;> first | rfl | exact q.1, by split <;> first | rfl | exact q.2⟩
  · exact RLs.lit (RLs.lit (RLs.oI (RLs.oJ (RLs.lit (RLs.lit (h.s) (by decide) (by decide) (by decide)) (by decide) (by decide) (by decide)))) (by decide) (by decide) (by decide)) (by decide) (by decide) (by decide)
theorem rl_send {n : Nat} {w : AW} (h : Rel n w) {c : Nat} {t x : Int32} {y : Int64} (hc : c < ct w 205) (ht : 0 ≤ t ∧ t ≤ 4) : Rel (n + 1) (sA (sA (sI (sJ (sI (sI w 195 (1700 + c) t) 196 (1700 + c) x) 222 0 y) 768 100 0) 147 c t) 148 c x) := by
  refine ⟨h.up.ci, h.up.ri, h.up.rb, h.up.c, h.up.wk, h.up.l, h.up.r, ?_, h.up.u, ?_, h.up.a, h.up.g, h.up.d, h.up.n, h.up.m, h.up.t, h.up.b, h.up.f, h.up.v, h.up.z, h.up.o⟩
  · intro j hj
    have q := h.k j hj
    simp only [wT_sI, wI_sI, wR_sI, wN_sI, wA_sI, wJ_sI, wP_sI, wL_sI, wT_sR, wI_sR, wR_sR, wN_sR, wA_sR, wJ_sR, wP_sR, wL_sR, wT_sA, wI_sA, wR_sA, wN_sA, wA_sA, wJ_sA, wP_sA, wL_sA, wT_sJ, wI_sJ, wR_sJ, wN_sJ, wA_sJ, wJ_sJ, wP_sJ, wL_sJ, wT_sP, wI_sP, wR_sP, wN_sP, wA_sP, wJ_sP, wP_sP, wL_sP, wT_sQ, wI_sQ, wR_sQ, wN_sQ, wA_sQ, wJ_sQ, wP_sQ, wL_sQ, wT_sL, wI_sL, wR_sL, wN_sL, wA_sL, wJ_sL, wP_sL, wL_sL, wT_sT, wI_sT, wR_sT, wN_sT, wA_sT, wJ_sT, wP_sT, wL_sT, wT_nO, wI_nO, wR_nO, wN_nO, wA_nO, wJ_nO, wP_nO, wL_nO, wT_nA, wI_nA, wR_nA, wN_nA, wA_nA, wJ_nA, wP_nA, wL_nA, Nat.reduceEqDiff, reduceIte, if_true, if_false]
    by_cases e : j = c
    · subst e
      rw [if_pos rfl, if_pos rfl, if_pos rfl, if_pos rfl]
      refine ⟨q.1, q.2.1, q.2.2.1, q.2.2.2.1, rfl, rfl, fun z => ?_⟩
      rw [z] at ht; exact absurd ht.1 (by decide)
    · rw [if_neg e, if_neg e, if_neg (fun z => e (by omega)), if_neg (fun z => e (by omega))]
      exact q
  · exact RLs.lit (RLs.lit (RLs.oI (RLs.oJ (RLs.oI (RLs.oI (h.s))))) (by decide) (by decide) (by decide)) (by decide) (by decide) (by decide)

theorem ld_nil {m c : Nat} {w : AW} (h : Rel m w) (hc : c < ct w 205) : wA w 145 c = 0 ↔ wL w (1800 + c) = [] := by
  have q := (h.k c hc).2.2.1
  have hm := (ci_Cr h.ci hc).2.2.2.2
  rw [q]
  constructor
  · intro z
    exact List.length_eq_zero_iff.mp ((nI_eq (b := 0) (show ct w (1800 + c) < 2 ^ 31 by omega) (by decide)).mp z)
  · intro z
    show nI (wL w (1800 + c)).length = 0
    rw [z]; rfl

theorem pr_gain {n : Nat} {w : AW} (h : Rel n w) (hn : n < 512) (p0 p1 p2 : Int32) : sp_X11_gain [.ref 200, .int p0, .int p1, .int p2] w (PRt ["java/lang/IllegalArgumentException"] sp_X12_gain [.int p0, .int p1, .int p2] n) := by
  rw [sq_X11_gain]
  refine ⟨h.ci, fun hc => ?_, fun hc => ?_⟩
  · refine ⟨(by first | exact T222 | exact hR.o | exact h.o), 1, 0, OC.ex (by decide) (by decide) rfl, ?_⟩
    rw [oJ_1, sq_X12_gain]
    exact ⟨h.ri, (fun _ => ⟨0, rfl, rfl, fun z => absurd z (by decide), h.up.thr 1⟩), (by intro a; exfalso; first | exact absurd hc.1 a | exact absurd a.1 hc | exact absurd a hc | exact absurd hc a | exact absurd a.2 hc.2 | exact absurd hc.2 a.2 | grind | (obtain ⟨a1, a2⟩ := a; subst a2; exact absurd hc.2 (by decide)) | (obtain ⟨c1, c2⟩ := hc; subst c2; exact absurd a.2 (by decide)))⟩
  · refine ⟨(by first | exact T222 | exact hR.o | exact h.o | (unfold RLo; rw [wT_czr, wN_czr]; exact h.o)), 0, _, OC.ok, ?_⟩
    rw [oJ_0, sq_X12_gain]
    simp only [wT_sI, wI_sI, wR_sI, wN_sI, wA_sI, wJ_sI, wP_sI, wL_sI, wT_sR, wI_sR, wR_sR, wN_sR, wA_sR, wJ_sR, wP_sR, wL_sR, wT_sA, wI_sA, wR_sA, wN_sA, wA_sA, wJ_sA, wP_sA, wL_sA, wT_sJ, wI_sJ, wR_sJ, wN_sJ, wA_sJ, wJ_sJ, wP_sJ, wL_sJ, wT_sP, wI_sP, wR_sP, wN_sP, wA_sP, wJ_sP, wP_sP, wL_sP, wT_sQ, wI_sQ, wR_sQ, wN_sQ, wA_sQ, wJ_sQ, wP_sQ, wL_sQ, wT_sL, wI_sL, wR_sL, wN_sL, wA_sL, wJ_sL, wP_sL, wL_sL, wT_sT, wI_sT, wR_sT, wN_sT, wA_sT, wJ_sT, wP_sT, wL_sT, wT_nO, wI_nO, wR_nO, wN_nO, wA_nO, wJ_nO, wP_nO, wL_nO, wT_nA, wI_nA, wR_nA, wN_nA, wA_nA, wJ_nA, wP_nA, wL_nA, Nat.reduceEqDiff, reduceIte, if_true, if_false]
    exact ⟨h.ri, (by intro a; exfalso; first | exact absurd hc.1 a | exact absurd a.1 hc | exact absurd a hc | exact absurd hc a | exact absurd a.2 hc.2 | exact absurd hc.2 a.2 | grind | (obtain ⟨a1, a2⟩ := a; subst a2; exact absurd hc.2 (by decide)) | (obtain ⟨c1, c2⟩ := hc; subst c2; exact absurd a.2 (by decide))), (fun _ => ⟨_, rfl, rfl, fun _ => rfl, rl_gain h hc.1⟩)⟩

theorem pr_send {n : Nat} {w : AW} (h : Rel n w) (hn : n < 512) (p0 p1 p2 : Int32) : sp_X11_send [.ref 200, .int p0, .int p1, .int p2] w (PRt ["java/util/NoSuchElementException", "java/lang/IllegalArgumentException"] sp_X12_send [.int p0, .int p1, .int p2] n) := by
  have e0 : wI w 809 100 = nI (ct w 205) := h.c.2.2.2.2.1
  have e1 : wI w 769 100 = wI w 716 200 := h.c.2.2.2.2.2.1
  have hm := (ci_crates h.ci).2.2
  have A0 : ∀ {v : Int32}, (0 ≤ v ∧ v < nI (ct w 205)) → v.toNatClampNeg < ct w 205 := fun hv => lt_ct hv (by omega)
  have B0 : ∀ {v : Int32}, (0 ≤ v ∧ v < nI (ct w 205)) → nI v.toNatClampNeg = v := fun hv => v_is hv (by omega)
  have e2 : ∀ {v : Int32}, (0 ≤ v ∧ v < nI (ct w 205)) → (wI w 716 200 < wA w 148 v.toNatClampNeg ↔ (¬ wI w 195 (1700 + v.toNatClampNeg) = -1 ∧ wI w 716 200 < wI w 196 (1700 + v.toNatClampNeg))) := fun hv => way_eq h (A0 hv)
  have e3 : ∀ {v : Int32}, (0 ≤ v ∧ v < nI (ct w 205)) → (wA w 145 v.toNatClampNeg = 0 ↔ wL w (1800 + v.toNatClampNeg) = []) := fun hv => ld_nil h (A0 hv)
  rw [sq_X11_send]
  refine ⟨h.ci, fun hc => ?_, fun hc => ?_, fun hc => ?_, fun hc => ?_⟩
  · refine ⟨(by first | exact T222 | exact hR.o | exact h.o), 1, 0, OC.ex (by decide) (by decide) rfl, ?_⟩
    rw [oJ_1, sq_X12_send, e0, e1]
    exact ⟨⟨h.ri, h.rb⟩, (fun _ => ⟨0, rfl, rfl, fun z => absurd z (by decide), h.up.thr 1⟩), (by intro a; exfalso; first | exact absurd hc.1 a | exact absurd a.1 hc | exact absurd a hc | exact absurd hc a | exact absurd a.2 hc.2 | exact absurd hc.2 a.2 | grind | (obtain ⟨a1, a2⟩ := a; subst a2; exact absurd hc.2 (by decide)) | (obtain ⟨c1, c2⟩ := hc; subst c2; exact absurd a.2 (by decide))), (by intro a; exfalso; first | exact absurd hc.1 a | exact absurd a.1 hc | exact absurd a hc | exact absurd hc a | exact absurd a.2 hc.2 | exact absurd hc.2 a.2 | grind | (obtain ⟨a1, a2⟩ := a; subst a2; exact absurd hc.2 (by decide)) | (obtain ⟨c1, c2⟩ := hc; subst c2; exact absurd a.2 (by decide))), (by intro a; exfalso; first | exact absurd hc.1 a | exact absurd a.1 hc | exact absurd a hc | exact absurd hc a | exact absurd a.2 hc.2 | exact absurd hc.2 a.2 | grind | (obtain ⟨a1, a2⟩ := a; subst a2; exact absurd hc.2 (by decide)) | (obtain ⟨c1, c2⟩ := hc; subst c2; exact absurd a.2 (by decide)))⟩
  · refine ⟨(by first | exact T222 | exact hR.o | exact h.o), 2, 0, OC.ex (by decide) (by decide) rfl, ?_⟩
    rw [oJ_2, sq_X12_send, e0, e1]
    exact ⟨⟨h.ri, h.rb⟩, (by intro a; exfalso; first | exact absurd hc.1 a | exact absurd a.1 hc | exact absurd a hc | exact absurd hc a | exact absurd a.2 hc.2 | exact absurd hc.2 a.2 | grind | (obtain ⟨a1, a2⟩ := a; subst a2; exact absurd hc.2 (by decide)) | (obtain ⟨c1, c2⟩ := hc; subst c2; exact absurd a.2 (by decide))), (fun _ => ⟨0, rfl, rfl, fun z => absurd z (by decide), h.up.thr 2⟩), (by intro a; exfalso; first | exact absurd hc.1 a | exact absurd a.1 hc | exact absurd a hc | exact absurd hc a | exact absurd a.2 hc.2 | exact absurd hc.2 a.2 | grind | (obtain ⟨a1, a2⟩ := a; subst a2; exact absurd hc.2 (by decide)) | (obtain ⟨c1, c2⟩ := hc; subst c2; exact absurd a.2 (by decide))), (by intro a; exfalso; first | exact absurd hc.1 a | exact absurd a.1 hc | exact absurd a hc | exact absurd hc a | exact absurd a.2 hc.2 | exact absurd hc.2 a.2 | grind | (obtain ⟨a1, a2⟩ := a; subst a2; exact absurd hc.2 (by decide)) | (obtain ⟨c1, c2⟩ := hc; subst c2; exact absurd a.2 (by decide)))⟩
  · refine ⟨(by first | exact T222 | exact hR.o | exact h.o | (unfold RLo; rw [wT_czr, wN_czr]; exact h.o)), 0, _, OC.ok, ?_⟩
    rw [oJ_0, sq_X12_send]
    simp only [wT_sI, wI_sI, wR_sI, wN_sI, wA_sI, wJ_sI, wP_sI, wL_sI, wT_sR, wI_sR, wR_sR, wN_sR, wA_sR, wJ_sR, wP_sR, wL_sR, wT_sA, wI_sA, wR_sA, wN_sA, wA_sA, wJ_sA, wP_sA, wL_sA, wT_sJ, wI_sJ, wR_sJ, wN_sJ, wA_sJ, wJ_sJ, wP_sJ, wL_sJ, wT_sP, wI_sP, wR_sP, wN_sP, wA_sP, wJ_sP, wP_sP, wL_sP, wT_sQ, wI_sQ, wR_sQ, wN_sQ, wA_sQ, wJ_sQ, wP_sQ, wL_sQ, wT_sL, wI_sL, wR_sL, wN_sL, wA_sL, wJ_sL, wP_sL, wL_sL, wT_sT, wI_sT, wR_sT, wN_sT, wA_sT, wJ_sT, wP_sT, wL_sT, wT_nO, wI_nO, wR_nO, wN_nO, wA_nO, wJ_nO, wP_nO, wL_nO, wT_nA, wI_nA, wR_nA, wN_nA, wA_nA, wJ_nA, wP_nA, wL_nA, Nat.reduceEqDiff, reduceIte, if_true, if_false]
    rw [e0, e1]
    exact ⟨⟨h.ri, h.rb⟩, (by intro a; exfalso; first | exact absurd hc.1 a | exact absurd a.1 hc | exact absurd a hc | exact absurd hc a | exact absurd a.2 hc.2 | exact absurd hc.2 a.2 | grind | (obtain ⟨a1, a2⟩ := a; subst a2; exact absurd hc.2 (by decide)) | (obtain ⟨c1, c2⟩ := hc; subst c2; exact absurd a.2 (by decide))), (by intro a; exfalso; first | exact absurd hc.1 a | exact absurd a.1 hc | exact absurd a hc | exact absurd hc a | exact absurd a.2 hc.2 | exact absurd hc.2 a.2 | grind | (obtain ⟨a1, a2⟩ := a; subst a2; exact absurd hc.2 (by decide)) | (obtain ⟨c1, c2⟩ := hc; subst c2; exact absurd a.2 (by decide))), (fun _ => ⟨_, rfl, rfl, fun _ => rfl, (h.up.out _).thr 0⟩), (by intro a; exfalso; first | exact absurd hc.1 a | exact absurd a.1 hc | exact absurd a hc | exact absurd hc a | exact absurd a.2 hc.2 | exact absurd hc.2 a.2 | grind | (obtain ⟨a1, a2⟩ := a; subst a2; exact absurd hc.2 (by decide)) | (obtain ⟨c1, c2⟩ := hc; subst c2; exact absurd a.2 (by decide)))⟩
  · refine ⟨(by first | exact T222 | exact hR.o | exact h.o | (unfold RLo; rw [wT_czr, wN_czr]; exact h.o)), 0, _, OC.ok, ?_⟩
    rw [oJ_0, sq_X12_send]
    simp only [wT_sI, wI_sI, wR_sI, wN_sI, wA_sI, wJ_sI, wP_sI, wL_sI, wT_sR, wI_sR, wR_sR, wN_sR, wA_sR, wJ_sR, wP_sR, wL_sR, wT_sA, wI_sA, wR_sA, wN_sA, wA_sA, wJ_sA, wP_sA, wL_sA, wT_sJ, wI_sJ, wR_sJ, wN_sJ, wA_sJ, wJ_sJ, wP_sJ, wL_sJ, wT_sP, wI_sP, wR_sP, wN_sP, wA_sP, wJ_sP, wP_sP, wL_sP, wT_sQ, wI_sQ, wR_sQ, wN_sQ, wA_sQ, wJ_sQ, wP_sQ, wL_sQ, wT_sL, wI_sL, wR_sL, wN_sL, wA_sL, wJ_sL, wP_sL, wL_sL, wT_sT, wI_sT, wR_sT, wN_sT, wA_sT, wJ_sT, wP_sT, wL_sT, wT_nO, wI_nO, wR_nO, wN_nO, wA_nO, wJ_nO, wP_nO, wL_nO, wT_nA, wI_nA, wR_nA, wN_nA, wA_nA, wJ_nA, wP_nA, wL_nA, Nat.reduceEqDiff, reduceIte, if_true, if_false]
    rw [e0, e1]
    exact ⟨⟨h.ri, h.rb⟩, (by intro a; exfalso; first | exact absurd hc.1 a | exact absurd a.1 hc | exact absurd a hc | exact absurd hc a | exact absurd a.2 hc.2 | exact absurd hc.2 a.2 | grind | (obtain ⟨a1, a2⟩ := a; subst a2; exact absurd hc.2 (by decide)) | (obtain ⟨c1, c2⟩ := hc; subst c2; exact absurd a.2 (by decide))), (by intro a; exfalso; first | exact absurd hc.1 a | exact absurd a.1 hc | exact absurd a hc | exact absurd hc a | exact absurd a.2 hc.2 | exact absurd hc.2 a.2 | grind | (obtain ⟨a1, a2⟩ := a; subst a2; exact absurd hc.2 (by decide)) | (obtain ⟨c1, c2⟩ := hc; subst c2; exact absurd a.2 (by decide))), (by intro a; exfalso; first | exact absurd hc.1 a | exact absurd a.1 hc | exact absurd a hc | exact absurd hc a | exact absurd a.2 hc.2 | exact absurd hc.2 a.2 | grind | (obtain ⟨a1, a2⟩ := a; subst a2; exact absurd hc.2 (by decide)) | (obtain ⟨c1, c2⟩ := hc; subst c2; exact absurd a.2 (by decide))), (fun _ => ⟨_, rfl, rfl, fun _ => rfl, rl_send h (A0 hc.1) hc.2.1.1⟩)⟩

theorem sA_id (w : AW) (t i : Nat) : sA w t i (wA w t i) = w := by
  have e : up2 w.2.2.2.2.1 t i (wA w t i) = w.2.2.2.2.1 := by
    funext a b
    show (if a = t then (if b = i then wA w t i else w.2.2.2.2.1 a b) else w.2.2.2.2.1 a b) = w.2.2.2.2.1 a b
    split
    · split
      · rename_i e1 e2; rw [e1, e2]; rfl
      · rfl
    · rfl
  show (w.1, w.2.1, w.2.2.1, w.2.2.2.1, up2 w.2.2.2.2.1 t i (wA w t i), w.2.2.2.2.2.1, w.2.2.2.2.2.2.1, w.2.2.2.2.2.2.2) = w
  rw [e]
/-- worlds that differ in sheets alone -/
def IRS (u w : AW) : Prop := wT u = wT w ∧ wR u = wR w ∧ wN u = wN w ∧ wL u = wL w ∧ wP u = wP w ∧ (∀ k x, k ∉ [768] → wI u k x = wI w k x) ∧ ∀ t, t < 1400 → t ∉ [118, 119] → wA u t = wA w t
set_option maxHeartbeats 1000000 in
theorem Rel.cs {n : Nat} {u w : AW} (h : Rel n w) (g : IRS u w) (hb : ∀ j, j < 40 → wA u 118 j = -1 ∨ rng (wA u 118 j) 24) (hs : RLs u) : Rel n u := by
  obtain ⟨hT, hR, hN, hL, hP, hI, hA⟩ := g
  have gs : SS [768] u w := ⟨hT, hR, hN, hL, hP, hI⟩
  have hA : ∀ t, (t < 1400 ∧ t ∉ [118, 119]) → wA u t = wA w t := fun t ht => hA t ht.1 ht.2
  refine ⟨?_, ?_, ?_, ?_, ?_, ?_, ?_, ?_, ?_, hs, ?_, ?_, ?_, ?_, ?_, ?_, ?_, ?_, ?_, ?_, ?_⟩
  · rw [gs.ci (by decide) (by decide) (by decide) (by decide)]; exact h.ci
  · have q := h.ri; unfold RI at *; rw [hT, hR, hN]; exact q
  · obtain ⟨q1, q2, q3, q4, q5, q6, q7, q8, q9, q10, q11, q12, q13, q14, q15⟩ := h.rb
    unfold RB; simp (disch := decide) only [hI, hA]
    exact ⟨q1, q2, q3, q4, q5, q6, q7, q8, q9, q10, q11, q12, q13, hb, q15⟩
  · have q := h.c; unfold RLc ct at *; simp (disch := decide) only [hI, hA, hL]; exact q
  · have q := h.wk; unfold RLw ct at *; simp (disch := decide) only [hI, hA, hL]; exact q
  · have q := h.l; unfold RLl kdN ct at *; simp (disch := decide) only [hI, hA, hL, hR]; exact q
  · have q := h.r; unfold RLr elN ct at *; simp (disch := decide) only [hI, hA, hL]; exact q
  · have q := h.k; unfold RLk elN ct at *; simp (disch := decide) only [hI, hA, hL]; exact q
  · have q := h.u; unfold RLu at *; simp (disch := decide) only [hA]; exact q
  · have q := h.a; unfold RLa ct at *; simp (disch := decide) only [hI, hA, hL, hR]; exact q
  · have q := h.g; unfold RLg ct at *; simp (disch := decide) only [hI, hA, hL, hR]; exact q
  · have q := h.d; unfold RLd ct at *; simp (disch := decide) only [hI, hA, hL, hR]; exact q
  · have q := h.n
    have e : lnV u = lnV w := by funext z; unfold lnV; simp (disch := decide) only [hI]
    unfold RLn ct at *; simp (disch := decide) only [hI, hA, hL, hR, e]; exact q
  · have q := h.m; unfold RLm ct at *; simp (disch := decide) only [hI, hA, hL, hR]; exact q
  · have q := h.t; unfold RLt at *; simp (disch := decide) only [hI, hA]; exact q
  · have q := h.b; unfold RLb at *; simp (disch := decide) only [hI, hA]; exact q
  · have q := h.f; unfold RLf ct at *; simp (disch := decide) only [hI, hT, hL]; exact q
  · have q := h.v; unfold RLv ct at *; simp (disch := decide) only [hI, hA, hL]; exact q
  · have q := h.z; unfold RLz ct at *; simp (disch := decide) only [hI, hA, hL]; exact q
  · have q := h.o; unfold RLo at *; rw [hT, hN]; exact q
theorem wI_768 {w : AW} {v : Int32} {k x : Nat} (hk : k ∉ [768]) : wI (sI w 768 100 v) k x = wI w k x := by
  rw [wI_sI, if_neg (fun z => hk (by rw [z]; decide))]
theorem mem_89 {t : Nat} (h : t ∉ [118, 119]) : t ≠ 118 ∧ t ≠ 119 := by
  simp only [List.mem_cons, List.not_mem_nil, or_false] at h; omega
theorem rl_tear {n : Nat} {w : AW} (h : Rel n w) {q k : Nat} {y : Int64} (hq : q < ct w 203) (hk : k < 10) : Rel (n + 1) (sA (sI (sJ (sA w (1500 + q) k (-1)) 222 0 y) 768 100 0) 118 (10 * q + k) (-1)) := by
  have hm := (ci_sheets h.ci).2.2
  refine h.up.cs ⟨rfl, rfl, rfl, rfl, rfl, fun k x hk => wI_768 hk, fun t ht h9 => ?_⟩ (fun j hj => ?_) ⟨fun a b ha hb => ?_, fun j a b => ?_⟩
  · obtain ⟨h8, h9⟩ := mem_89 h9
    funext x
    simp only [wA_sA, wA_sI, wA_sJ, if_neg h8, if_neg (show ¬ t = 1500 + q by omega)]
  · simp only [wA_sA, wA_sI, wA_sJ, if_true, if_neg (show ¬ 118 = 1500 + q by omega)]
    split
    · exact Or.inl rfl
    · exact rb_rowSize h.rb j hj
  · have ha' : a < ct w 203 := ha
    obtain ⟨s1, s2⟩ := h.s.1 a b ha hb
    simp only [wA_sA, wA_sI, wA_sJ, if_true, if_neg (show ¬ 118 = 1500 + q by omega), if_neg (show ¬ 119 = 118 by decide), if_neg (show ¬ 119 = 1500 + q by omega), if_neg (show ¬ 1500 + a = 118 by omega), if_neg (show ¬ 1600 + a = 118 by omega), if_neg (show ¬ 1600 + a = 1500 + q by omega)]
    by_cases e : a = q ∧ b = k
    · obtain ⟨rfl, rfl⟩ := e
      rw [if_pos rfl, if_pos rfl, if_pos rfl]
      refine ⟨rfl, fun i hi _ => ?_⟩
      exact absurd hi (Int32.not_lt.mpr (Int32.le_of_lt (Int32.lt_of_lt_of_le (by decide : (-1 : Int32) < 0) (nI_pos' (by omega)))))
    · rw [if_neg (show ¬ 10 * a + b = 10 * q + k by omega)]
      by_cases e1 : a = q
      · rw [if_pos (by omega), if_neg (fun z => e ⟨e1, z⟩)]
        exact ⟨s1, s2⟩
      · rw [if_neg (by omega)]
        exact ⟨s1, s2⟩
  · have b' : 10 * ct w 203 ≤ j := b
    simp only [wA_sA, wA_sI, wA_sJ, if_true, if_neg (show ¬ 118 = 1500 + q by omega)]
    split
    · rfl
    · exact h.s.2 j a b

