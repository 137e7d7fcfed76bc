theorem AX.mono {ks rs ks' rs' : List Nat} {ls ls' : Nat → Prop} {w u : AW} (g : AX ks rs ls w u) (h1 : ∀ k ∈ ks, k ∈ ks') (h2 : ∀ t ∈ rs, t ∈ rs') (h3 : ∀ x, ls x → ls' x) : AX ks' rs' ls' w u := fun x hx => by
  obtain ⟨a, b, c, d, e⟩ := g x hx
  exact ⟨a, b, fun hl => c (fun z => hl (h3 x z)), fun k hk => d k (fun z => hk (h1 k z)), fun hr => e (fun z => hr (h2 x z))⟩
theorem rlW_A {V : AW} {p : Int32} {t i : Nat} : wA (rlW V p) t i = if t = 138 then (if i = (wI V 798 100).toNatClampNeg then 0 else wA V t i) else wA V t i := by
  unfold rlW
  rw [wA_sA]
  simp only [wA_sI]
theorem rlW_I {V : AW} {p : Int32} {k x : Nat} (h : k ∉ [768, 797, 799, 800, 801]) : wI (rlW V p) k x = wI V k x := by
  simp only [List.mem_cons, List.not_mem_nil, or_false, not_or] at h
  unfold rlW
  simp only [wI_sA, wI_sI, if_neg h.1, if_neg h.2.1, if_neg h.2.2.1, if_neg h.2.2.2.1, if_neg h.2.2.2.2]
/-- what the reference leaves behind a text -/
theorem rln_f {V u : AW} {p : Int32} {l a : Nat} {b : Int32} {cl : List (Int32 × Int32 × Int32)} (hl : (wI V 798 100).toNatClampNeg = l) (hu : RLN (rlW V p) u l a b cl) : (wT u = wT V ∧ wR u = wR V ∧ wN u = wN V ∧ wL u = wL V ∧ wP u = wP V) ∧ (∀ k x, k ∉ [768, 797, 799, 800, 801] → wI u k x = wI V k x) ∧ wI u 768 100 = 0 ∧ wI u 797 100 = 0 ∧ (∀ t, t ∉ [138, 139, 140, 141] → wA u t = wA V t) ∧ (∀ i, i ≠ l → wA u 138 i = wA V 138 i) ∧ (∀ i, ¬ (10 * l ≤ i ∧ i < 10 * l + 10) → wA u 139 i = wA V 139 i ∧ wA u 140 i = wA V 140 i ∧ wA u 141 i = wA V 141 i) ∧ wA u 138 l = nI cl.length ∧ ∀ i x, cl[i]? = some x → wA u 139 (10 * l + i) = x.1 ∧ wA u 140 (10 * l + i) = x.2.1 ∧ wA u 141 (10 * l + i) = x.2.2 := by
  obtain ⟨⟨h1, h2, h3, h4, h5, h6, h7, h8, h9, h10⟩, -, h11, h12⟩ := hu
  refine ⟨⟨h1, h2, h3, h4, h5⟩, fun k x hk => ?_, ?_, ?_, fun t ht => ?_, fun i hi => ?_, fun i hi => ?_, h11, h12⟩
  · have hk2 := hk
    simp only [List.mem_cons, List.not_mem_nil, or_false, not_or] at hk2
    rw [h7 k x hk2.2.2.2.1 hk2.2.2.2.2, rlW_I hk]
  · rw [h7 768 100 (by decide) (by decide)]; rfl
  · rw [h7 797 100 (by decide) (by decide)]; rfl
  · rw [h8 t ht]
    funext i
    rw [rlW_A, if_neg (fun z => ht (by rw [z]; decide))]
  · rw [h10 i hi, rlW_A, if_pos rfl, if_neg (by rw [hl]; exact hi)]
  · obtain ⟨a, b, c⟩ := h9 i hi
    rw [a, b, c, rlW_A, rlW_A, rlW_A, if_neg (by decide), if_neg (by decide), if_neg (by decide)]
    exact ⟨rfl, rfl, rfl⟩
theorem rln_ax {w V u : AW} {p : Int32} {l a : Nat} {b : Int32} {cl : List (Int32 × Int32 × Int32)} {ls : Nat → Prop} (g : AX [715] [] ls w V) (hl : (wI V 798 100).toNatClampNeg = l) (hu : RLN (rlW V p) u l a b cl) : AX [715, 768, 797, 799, 800, 801] [138, 139, 140, 141] ls w u := by
  obtain ⟨⟨h1, h2, h3, h4, h5⟩, h6, -, -, h7, -⟩ := rln_f hl hu
  intro x hx
  obtain ⟨q1, q2, q3, q4, q5⟩ := g x hx
  refine ⟨by rw [h1]; exact q1, by rw [h3]; exact q2, fun z => by rw [h4]; exact q3 z, fun k hk => ?_, fun hr => by rw [h7 x hr]; exact q5 List.not_mem_nil⟩
  simp only [List.mem_cons, List.not_mem_nil, or_false, not_or] at hk
  rw [h2, h6 k x (by simp only [List.mem_cons, List.not_mem_nil, or_false, not_or]; exact hk.2)]
  exact q4 k (by simp only [List.mem_cons, List.not_mem_nil, or_false]; exact hk.1)
theorem wT_mk (w X : AW) : wT (wT w, X.2) = wT w := rfl
theorem wI_mk (w X : AW) : wI (wT w, X.2) = wI X := rfl
theorem wR_mk (w X : AW) : wR (wT w, X.2) = wR X := rfl
theorem wN_mk (w X : AW) : wN (wT w, X.2) = wN X := rfl
theorem wA_mk (w X : AW) : wA (wT w, X.2) = wA X := rfl
theorem wL_mk (w X : AW) : wL (wT w, X.2) = wL X := rfl
theorem fg_is (X : AW) (l : List Nat) : fgW (sL X 204 l) 223 = sL (sT X 223 0) 204 l := rfl
/-- what the class leaves behind a text -/
theorem ln_fail {w : AW} {p a d : Int32} (hC : CIv w) (hk : ct w 204 < 30) (hf : RLf w) : AX [715] [] (fun _ => False) w (wT w, (rdW (lnR w (ct w 204) p a d).1 (lnR w (ct w 204) p a d).2).2) ∧ CIv (wT w, (rdW (lnR w (ct w 204) p a d).1 (lnR w (ct w 204) p a d).2).2) ∧ wI (wT w, (rdW (lnR w (ct w 204) p a d).1 (lnR w (ct w 204) p a d).2).2) 715 200 = 0 := by
  obtain ⟨f1, f2, f3⟩ := hf.2.2.2.2.1 _ (Nat.le_refl _) hk
  have f4 := hf.2.2.2.2.2.1
  obtain ⟨ag, hA⟩ := ln_ag (w := w) (k := ct w 204) (n := p) (a := a) (d := d) f1 f2 f4 f3
  generalize hs : (lnR w (ct w 204) p a d).2 = s
  revert ag hA
  generalize (lnR w (ct w 204) p a d).1 = u
  intro ag hA
  have ag2 : AG (sI w 715 200 0) (rdW u s) := by
    unfold rdW
    exact (ag.oI f4).oI f4
  have hA2 : wA (rdW u s) = wA w := by
    rw [← hA]
    unfold rdW
    funext t i
    simp only [wA_sI]
  have ag3 : AG (sI w 715 200 0) (wT w, (rdW u s).2) := fun x hx => by
    obtain ⟨q1, q2, q3, q4, q5⟩ := ag2 x hx
    exact ⟨by rw [wT_mk, wT_sI], by rw [wN_mk]; exact q2, by rw [wL_mk]; exact q3, fun k => by rw [wR_mk]; exact q4 k, fun k => by rw [wI_mk]; exact q5 k⟩
  have hC2 : CIv (sI w 715 200 0) := by rw [CIv_sI715]; exact hC
  refine ⟨AX.ag ag3 (by rw [wA_mk]; exact hA2), ag3.ci hC2 ?_ ?_, ?_⟩
  · rw [wT_mk]; exact (ci_C hC).2.2.1
  · rw [wT_mk]; exact (ci_C hC).2.2.2
  · rw [ag3.I (x := 200) (c := 12) (by rw [wT_sI]; exact hC.2.1.1) (by decide), wI_sI, if_pos rfl, if_pos rfl]
theorem ln_succ {w : AW} {p a d : Int32} {cl : List (Int32 × Int32 × Int32)} (hC : CIv w) (hk : ct w 204 < 30) (hf : RLf w) (hc : CLS (lnR w (ct w 204) p a d).1 (ct w 204) cl) : AX [715] [] (fun x => x = 204) w (fgW (sL (rdW (lnR w (ct w 204) p a d).1 (lnR w (ct w 204) p a d).2) 204 (wL w 204 ++ [1900 + ct w 204])) 223) ∧ CIv (fgW (sL (rdW (lnR w (ct w 204) p a d).1 (lnR w (ct w 204) p a d).2) 204 (wL w 204 ++ [1900 + ct w 204])) 223) ∧ wI (fgW (sL (rdW (lnR w (ct w 204) p a d).1 (lnR w (ct w 204) p a d).2) 204 (wL w 204 ++ [1900 + ct w 204])) 223) 715 200 = 0 ∧ (∀ x, ¬ (x = 1900 + ct w 204 ∨ x = 2000 + ct w 204 ∨ (2100 + 10 * ct w 204 ≤ x ∧ x < 2110 + 10 * ct w 204)) → wT (fgW (sL (rdW (lnR w (ct w 204) p a d).1 (lnR w (ct w 204) p a d).2) 204 (wL w 204 ++ [1900 + ct w 204])) 223) x = wT w x) ∧ wI (fgW (sL (rdW (lnR w (ct w 204) p a d).1 (lnR w (ct w 204) p a d).2) 204 (wL w 204 ++ [1900 + ct w 204])) 223) 385 (1900 + ct w 204) = a ∧ wI (fgW (sL (rdW (lnR w (ct w 204) p a d).1 (lnR w (ct w 204) p a d).2) 204 (wL w 204 ++ [1900 + ct w 204])) 223) 386 (1900 + ct w 204) = d ∧ CLS (fgW (sL (rdW (lnR w (ct w 204) p a d).1 (lnR w (ct w 204) p a d).2) 204 (wL w 204 ++ [1900 + ct w 204])) 223) (ct w 204) cl ∧ ct (fgW (sL (rdW (lnR w (ct w 204) p a d).1 (lnR w (ct w 204) p a d).2) 204 (wL w 204 ++ [1900 + ct w 204])) 223) 204 = ct w 204 + 1 := by
  obtain ⟨f1, f2, f3⟩ := hf.2.2.2.2.1 _ (Nat.le_refl _) hk
  have f4 := hf.2.2.2.2.2.1
  obtain ⟨ag, hA⟩ := ln_ag (w := w) (k := ct w 204) (n := p) (a := a) (d := d) f1 f2 f4 f3
  obtain ⟨np, i5, i6, eT⟩ := ln_np (s := (lnR w (ct w 204) p a d).2) hC hk f1 f2 f4 f3 hc
  rw [fg_is]
  revert np eT
  generalize hs : (lnR w (ct w 204) p a d).2 = s
  revert ag hA i5 i6 hc
  generalize (lnR w (ct w 204) p a d).1 = u
  intro hc ag hA i5 i6 np eT
  have ag2 : AG (sI w 715 200 0) (sT (rdW u s) 223 0) := by
    refine AG.oT ?_ f4
    unfold rdW
    exact (ag.oI f4).oI f4
  have hA2 : wA (sT (rdW u s) 223 0) = wA w := by
    rw [← hA]
    unfold rdW
    funext t i
    simp only [wA_sT, wA_sI]
  have hC2 : CIv (sI w 715 200 0) := by rw [CIv_sI715]; exact hC
  have ax : AX [715] [] (fun _ => False) w (sT (rdW u s) 223 0) := AX.ag ag2 hA2
  have hCY : CIv (sT (rdW u s) 223 0) := ag2.ci hC2 (by rw [eT _ (by omega)]; exact (ci_C hC).2.2.1) (by rw [eT _ (by omega)]; exact (ci_C hC).2.2.2)
  have eL := ax.L (ci_loans hC).1 (by decide) id
  have ec := ax.cn (ci_loans hC).1 (by decide) id
  have hCF := CIv_addLoan hCY (by rw [ec]; exact hk) (by rw [ec]; exact np)
  rw [eL, ec] at hCF
  have wIr : ∀ q x, q ∉ [451, 452] → wI (rdW u s) q x = wI u q x := fun q x hq => by
    simp only [List.mem_cons, List.not_mem_nil, or_false, not_or] at hq
    unfold rdW
    rw [wI_sI, if_neg hq.2, wI_sI, if_neg hq.1]
  have wRr : wR (rdW u s) = wR u := by
    unfold rdW; funext q x; simp only [wR_sI]
  have wTr : ∀ x, x ≠ 223 → wT (sL (sT (rdW u s) 223 0) 204 (wL w 204 ++ [1900 + ct w 204])) x = wT u x := fun x hx => by
    rw [wT_sL, wT_sT, if_neg hx]
    unfold rdW; simp only [wT_sI]
  have wLr : ∀ x, x ≠ 204 → wL (sL (sT (rdW u s) 223 0) 204 (wL w 204 ++ [1900 + ct w 204])) x = wL u x := fun x hx => by
    rw [wL_sL, if_neg hx, wL_sT]
    unfold rdW; simp only [wL_sI]
  refine ⟨AX.oL (ax.mono (fun _ z => z) (fun _ z => z) (fun _ z => z.elim)) (Or.inr rfl), hCF, ?_, fun x hx => ?_, ?_, ?_, ?_, ?_⟩
  · rw [wI_sL, ag2.I (x := 200) (c := 12) (by rw [wT_sI]; exact hC.2.1.1) (by decide), wI_sI, if_pos rfl, if_pos rfl]
  · rw [wT_sL]; exact eT x hx
  · rw [wI_sL, wI_sT, wIr _ _ (by decide)]; exact i5
  · rw [wI_sL, wI_sT, wIr _ _ (by decide)]; exact i6
  · obtain ⟨c1, c2, c3, c4⟩ := hc
    refine ⟨?_, c2, ?_, fun i x hx => ?_⟩
    · unfold ct at *
      rw [wLr _ (by omega)]; exact c1
    · rw [wLr _ (by omega)]; exact c3
    · obtain ⟨⟨g1, g2, g3⟩, g4, g5, g6⟩ := c4 i x hx
      have ek : kdN (sL (sT (rdW u s) 223 0) 204 (wL w 204 ++ [1900 + ct w 204])) (2100 + 10 * ct w 204 + i) = kdN u (2100 + 10 * ct w 204 + i) := by
        unfold kdN
        rw [wR_sL, wR_sT, wRr]
      refine ⟨⟨by rw [wTr _ (by omega)]; exact g1, by rw [ek, wR_sL, wR_sT, wRr]; exact g2, by rw [ek]; exact g3⟩, by rw [ek]; exact g4, ?_, ?_⟩
      · rw [wI_sL, wI_sT, wIr _ _ (by decide)]; exact g5
      · rw [wI_sL, wI_sT, wIr _ _ (by decide)]; exact g6
  · unfold ct at *
    rw [wL_sL, if_pos rfl, List.length_append]; rfl

theorem pr_loan {n : Nat} {w : AW} (h : Rel n w) (hn : n < 512) (p0 p1 p2 : Int32) : sp_X11_loan [.ref 200, .int p0, .int p1, .int p2] w (PRt ["java/lang/IllegalArgumentException", "java/lang/IllegalStateException"] sp_X12_loan [.int p0, .int p1, .int p2] n) := by
  have bd := h.ci.bd
  have e7 : wI w 797 100 = wI w 715 200 := h.c.2.2.2.2.2.2
  have e8 : wI w 798 100 = nI (ct w 204) := h.c.2.2.2.1
  obtain ⟨tb, htb, etb⟩ := rb_taped h.rb
  rw [e7] at etb
  rw [sq_X11_loan]
  refine ⟨⟨h.ci, ⟨tb, htb, etb⟩, fun z => ⟨(h.f.2.2.2.2.1 _ (Nat.le_refl _) z).1, (h.f.2.2.2.2.1 _ (Nat.le_refl _) z).2.1, h.f.2.2.2.2.2.1, (h.f.2.2.2.2.1 _ (Nat.le_refl _) z).2.2⟩⟩, fun hc => ?_, fun hc => ?_, fun hc => ?_⟩
  · refine ⟨(by first | exact T222 | exact hR.o | exact h.o), 1, 0, OC.ex (by decide) (by decide) rfl, ?_⟩
    rw [oJ_1, sq_X12_loan, e7]
    exact ⟨⟨h.ri, h.rb⟩, (fun _ => ⟨0, rfl, rfl, fun z => absurd z (by decide), h.up.thr 1⟩), fun a => absurd a.1 hc, fun a => absurd a.1 hc⟩
  · refine ⟨(by first | exact T222 | exact hR.o | exact h.o), 2, 0, OC.ex (by decide) (by decide) rfl, ?_⟩
    have n30 : ¬ nI (ct w 204) < 30 := fun z => hc.2 ((nI_ltI (b := 30) (by omega) (by decide)).mp z)
    rw [oJ_2, sq_X12_loan, e7, e8]
    exact ⟨⟨h.ri, h.rb⟩, fun a => absurd hc.1 a, (fun _ => ⟨0, rfl, rfl, fun z => absurd z (by decide), h.up.thr 2⟩), fun a => absurd a.2 n30⟩
  · obtain ⟨hA, hk⟩ := hc
    have l30 : nI (ct w 204) < 30 := (nI_ltI (b := 30) (by omega) (by decide)).mpr hk
    have hA1 := hA.1
    rw [etb] at hA1
    obtain ⟨N, hN, eN⟩ := in_le (n := tb) hA1 rfl (by omega)
    have cN : p0.toNatClampNeg = N := by rw [eN, nI_clamp (by omega)]
    have hB : BY (wA w 209) (wA w 135) N := fun i hi => h.t i (by rw [etb, nI_clamp (by omega)]; omega)
    have hQ : lnR w (ct w 204) p0 p1 p2 = txR (wA w 209) N (ct w 204) 11 (lnW w (ct w 204) p0 p1 p2) (sp (wA w 135) N 0, -1) := by
      unfold lnR
      rw [cN, skS_eq hB (Nat.zero_le _)]
    have hC0 : CLS (lnW w (ct w 204) p0 p1 p2) (ct w 204) [] := by
      have e : wL (lnW w (ct w 204) p0 p1 p2) (2000 + ct w 204) = [] := by
        show wL (rdI (nwL w (ct w 204) p1 p2) p0 (ct w 204)) (2000 + ct w 204) = []
        rw [rdI_L (by omega), nwL_ln]
      refine ⟨by unfold ct at *; rw [e]; rfl, by decide, by rw [e]; rfl, fun i x hx => by cases hx⟩
    obtain ⟨t1, t2, t3⟩ := tx_eq (k := ct w 204) hB (by omega) 11 (lnW w (ct w 204) p0 p1 p2) (sp (wA w 135) N 0) [] hC0 (sp_le (Nat.zero_le _)).2 (sp_sp (Nat.zero_le _))
    rw [← hQ] at t1 t2
    refine ⟨fun hf => ?_, fun hf => ?_⟩
    · obtain ⟨ax, hCF, h715⟩ := ln_fail (p := p0) (a := p1) (d := p2) h.ci hk h.f
      have T222 := ax.xo h.o
      refine ⟨(by first | exact T222 | exact hR.o | exact h.o), 0, _, OC.ok, ?_⟩
      rw [oJ_0]
      have hTF : wT (sJ (wT w, (rdW (lnR w (ct w 204) p0 p1 p2).1 (lnR w (ct w 204) p0 p1 p2).2).2) 222 0 (-2 - (lnR w (ct w 204) p0 p1 p2).2.2).toInt64) = wT w := by
        rw [show ∀ (X : AW) (y : Int64), wT (sJ X 222 0 y) = wT X from fun _ _ => rfl, wT_mk]
      have axV := AX.oJ (t := 222) (i := 0) (v := (-2 - (lnR w (ct w 204) p0 p1 p2).2.2).toInt64) ax
      have hCV := hCF
      rw [← CIv_out _ (-2 - (lnR w (ct w 204) p0 p1 p2).2.2).toInt64] at hCV
      have h7V : wI (sJ (wT w, (rdW (lnR w (ct w 204) p0 p1 p2).1 (lnR w (ct w 204) p0 p1 p2).2).2) 222 0 (-2 - (lnR w (ct w 204) p0 p1 p2).2.2).toInt64) 715 200 = 0 := by
        rw [wI_sJ]; exact h715
      revert axV hCV h7V hTF
      generalize sJ (wT w, (rdW (lnR w (ct w 204) p0 p1 p2).1 (lnR w (ct w 204) p0 p1 p2).2).2) 222 0 (-2 - (lnR w (ct w 204) p0 p1 p2).2.2).toInt64 = V
      intro hTF axV hCV h7V
      have v7 : wI V 797 100 = wI w 715 200 := (axV.I h.ri.1 (by decide) (by decide)).trans e7
      have v8 : wI V 798 100 = nI (ct w 204) := (axV.I h.ri.1 (by decide) (by decide)).trans e8
      have vA : wA V 135 = wA w 135 := axV.A (rfT h.ri (t := 135) (by decide)) (by decide) (by decide)
      have aA : ∀ t, t ∈ rfI → wA V t = wA w t := axV.rows h.ri (fun _ z => z) (fun _ _ => List.not_mem_nil)
      rw [sq_X12_loan, v7, v8, vA, cN, nI_clamp (show ct w 204 < 2 ^ 31 by omega)]
      refine ⟨⟨axV.xri h.ri (by decide), axV.xrb h.ri h.rb (by decide) (by decide)⟩, fun a => absurd hA a, fun a => absurd l30 a.2, fun _ u hu => ⟨fun hb => ?_, fun hb => absurd (t1.trans hb) hf⟩⟩
      have cl8 : (wI V 798 100).toNatClampNeg = ct w 204 := by rw [v8, nI_clamp (by omega)]
      have gU := rln_ax axV cl8 hu
      obtain ⟨⟨z1, z2, z3, z4, z5⟩, z6, z7, z8, z9, z10, z11, z12, z13⟩ := rln_f cl8 hu
      refine ⟨_, rfl, z7, fun _ => by rw [t1], ru_lnF h hk gU ?_ (by rw [z1, hTF]) ?_ z8 (fun i hi => by rw [z10 i hi, aA 138 (by decide)]) (fun i hi => ?_) ⟨_, t3, z12⟩⟩
      · have ss : SS [768, 797, 799, 800, 801] u V := ⟨z1, z2, z3, z4, z5, z6⟩
        rw [ss.ci (by decide) (by decide) (by decide) (by decide)]; exact hCV
      · rw [z6 715 200 (by decide)]; exact h7V
      · obtain ⟨y1, y2, y3⟩ := z11 i hi
        rw [y1, y2, y3, aA 139 (by decide), aA 140 (by decide), aA 141 (by decide)]
        exact ⟨rfl, rfl, rfl⟩
    · have hb : (rlS (wA w 135) N 11 (sp (wA w 135) N 0) []).2.1 = -1 := t1.symm.trans hf
      obtain ⟨ax, hCF, h715, hTF, i5, i6, hcl, hct⟩ := ln_succ h.ci hk h.f (t2 hb)
      have T222 := ax.xo h.o
      refine ⟨(by first | exact T222 | exact hR.o | exact h.o), 0, _, OC.ok, ?_⟩
      rw [oJ_0]
      have axV := AX.oJ (t := 222) (i := 0) (v := (nI (ct w 204)).toInt64) ax
      revert ax hCF h715 hTF i5 i6 hcl hct axV
      generalize fgW (sL (rdW (lnR w (ct w 204) p0 p1 p2).1 (lnR w (ct w 204) p0 p1 p2).2) 204 (wL w 204 ++ [1900 + ct w 204])) 223 = F
      intro ax hCF h715 hTF i5 i6 hcl hct axV
      have hCV : CIv (sJ F 222 0 (nI (ct w 204)).toInt64) := by rw [CIv_out]; exact hCF
      have e2 : ∀ k x, wI (sJ F 222 0 (nI (ct w 204)).toInt64) k x = wI F k x := fun _ _ => rfl
      have e3 : ∀ x, wT (sJ F 222 0 (nI (ct w 204)).toInt64) x = wT F x := fun _ => rfl
      have e4 : ∀ x, wL (sJ F 222 0 (nI (ct w 204)).toInt64) x = wL F x := fun _ => rfl
      have e5 : ∀ k x, wR (sJ F 222 0 (nI (ct w 204)).toInt64) k x = wR F k x := fun _ _ => rfl
      revert axV hCV e2 e3 e4 e5
      generalize sJ F 222 0 (nI (ct w 204)).toInt64 = V
      intro axV hCV e2 e3 e4 e5
      have v7 : wI V 797 100 = wI w 715 200 := (axV.I h.ri.1 (by decide) (by decide)).trans e7
      have v8 : wI V 798 100 = nI (ct w 204) := (axV.I h.ri.1 (by decide) (by decide)).trans e8
      have vA : wA V 135 = wA w 135 := axV.A (rfT h.ri (t := 135) (by decide)) (by decide) (by decide)
      have aA : ∀ t, t ∈ rfI → wA V t = wA w t := axV.rows h.ri (fun _ z => z) (fun _ _ => List.not_mem_nil)
      rw [sq_X12_loan, v7, v8, vA, cN, nI_clamp (show ct w 204 < 2 ^ 31 by omega)]
      refine ⟨⟨axV.xri h.ri (by decide), axV.xrb h.ri h.rb (by decide) (by decide)⟩, fun a => absurd hA a, fun a => absurd l30 a.2, fun _ u hu => ⟨fun z => absurd hb z, fun _ => ?_⟩⟩
      have cl8 : (wI V 798 100).toNatClampNeg = ct w 204 := by rw [v8, nI_clamp (by omega)]
      have gU := rln_ax axV cl8 hu
      obtain ⟨⟨z1, z2, z3, z4, z5⟩, z6, z7, z8, z9, z10, z11, z12, z13⟩ := rln_f cl8 hu
      obtain ⟨c1, c2, c3, c4⟩ := hcl
      have nT : ∀ x, wT (sI (sA (sA u 136 (ct w 204) p1) 137 (ct w 204) p2) 798 100 (nI (ct w 204) + 1)) x = wT F x := fun x => by rw [wT_sI, wT_sA, wT_sA, z1]; exact e3 x
      have nL' : ∀ x, wL (sI (sA (sA u 136 (ct w 204) p1) 137 (ct w 204) p2) 798 100 (nI (ct w 204) + 1)) x = wL F x := fun x => by rw [wL_sI, wL_sA, wL_sA, z4]; exact e4 x
      have nR : ∀ k x, wR (sI (sA (sA u 136 (ct w 204) p1) 137 (ct w 204) p2) 798 100 (nI (ct w 204) + 1)) k x = wR F k x := fun k x => by rw [wR_sI, wR_sA, wR_sA, z2]; exact e5 k x
      have nI' : ∀ k x, k ∉ [768, 797, 798, 799, 800, 801] → wI (sI (sA (sA u 136 (ct w 204) p1) 137 (ct w 204) p2) 798 100 (nI (ct w 204) + 1)) k x = wI F k x := fun k x hk => by
        simp only [List.mem_cons, List.not_mem_nil, or_false, not_or] at hk
        rw [wI_sI, if_neg hk.2.2.1, wI_sA, wI_sA, z6 k x (by simp only [List.mem_cons, List.not_mem_nil, or_false, not_or]; exact ⟨hk.1, hk.2.1, hk.2.2.2.1, hk.2.2.2.2.1, hk.2.2.2.2.2⟩)]
        exact e2 k x
      have nA : ∀ t, t ≠ 136 → t ≠ 137 → wA (sI (sA (sA u 136 (ct w 204) p1) 137 (ct w 204) p2) 798 100 (nI (ct w 204) + 1)) t = wA u t := fun t h1 h2 => by
        funext j
        rw [wA_sI, wA_sA, if_neg h2, wA_sA, if_neg h1]
      have ek : ∀ x, kdN (sI (sA (sA u 136 (ct w 204) p1) 137 (ct w 204) p2) 798 100 (nI (ct w 204) + 1)) x = kdN F x := fun x => by unfold kdN; rw [nR]
      have ec : ct (sI (sA (sA u 136 (ct w 204) p1) 137 (ct w 204) p2) 798 100 (nI (ct w 204) + 1)) (2000 + ct w 204) = (rlS (wA w 135) N 11 (sp (wA w 135) N 0) []).2.2.length := by
        rw [← c1]; exact congrArg List.length (nL' _)
      refine ⟨_, rfl, ?_, fun _ => rfl, ru_lnS (a := p1) (d := p2) h hk ?_ ?_ (fun x hx => by rw [nT]; exact hTF x hx) ?_ ?_ ?_ ?_ (fun i => ?_) (fun i => ?_) (fun i hi => ?_) (fun i hi => ?_) ?_ ?_ ?_ ?_ (fun i hi => ?_)⟩
      · rw [wI_sI, if_neg (by decide)]; exact z7
      · refine AX.oI ?_ (Or.inr (by decide))
        refine AX.oA ?_ (Or.inr (by decide))
        refine AX.oA ?_ (Or.inr (by decide))
        exact gU.mono (by decide) (by decide) (fun _ z => z)
      · rw [show ∀ (X : AW) (v : Int32), CIv (sI X 798 100 v) = CIv X from fun _ _ => rfl, CIv_sA, CIv_sA]
        have ss : SS [768, 797, 799, 800, 801] u V := ⟨z1, z2, z3, z4, z5, z6⟩
        rw [ss.ci (by decide) (by decide) (by decide) (by decide)]; exact hCV
      · rw [← hct]; exact congrArg List.length (nL' _)
      · rw [nI' 715 200 (by decide)]; exact h715
      · rw [wI_sI, if_neg (by decide)]; exact z8
      · rw [wI_sI, if_pos rfl, if_pos rfl]; exact nI_succ1 _
      · rw [wA_sI, wA_sA, if_neg (by decide), wA_sA, if_pos rfl, z9 136 (by decide), aA 136 (by decide)]
      · rw [wA_sI, wA_sA, if_pos rfl, wA_sA, if_neg (show ¬ 137 = 136 by decide), z9 137 (by decide), aA 137 (by decide)]
      · rw [nA 138 (by decide) (by decide), z10 i hi, aA 138 (by decide)]
      · obtain ⟨y1, y2, y3⟩ := z11 i hi
        rw [nA 139 (by decide) (by decide), nA 140 (by decide) (by decide), nA 141 (by decide) (by decide), y1, y2, y3, aA 139 (by decide), aA 140 (by decide), aA 141 (by decide)]
        exact ⟨rfl, rfl, rfl⟩
      · rw [ec]; exact t3
      · rw [nI' 385 _ (by decide)]; exact i5
      · rw [nI' 386 _ (by decide)]; exact i6
      · rw [nA 138 (by decide) (by decide), ec]; exact z12
      · rw [ec] at hi
        have hx := List.getElem?_eq_getElem hi
        obtain ⟨y1, y2, y3⟩ := z13 i _ hx
        obtain ⟨-, g4, g5, g6⟩ := c4 i _ hx
        rw [nA 139 (by decide) (by decide), nA 140 (by decide) (by decide), nA 141 (by decide) (by decide), ek, nI' 129 _ (by decide), nI' 130 _ (by decide), y1, y2, y3]
        exact ⟨g4.symm, g5.symm, g6.symm⟩

