theorem paW_127 (w : AW) (n r : Nat) : wA (paW w n r) 127 = wA w 127 := by
  unfold paW
  split
  · funext j; unfold lgW; rw [wA_sA, if_neg (by decide)]
  · rw [(riW_bk _ _ _ _ _ _).2.2.2.2.2.2.2 127 (by decide) (by decide) (by decide)]
    funext j; unfold lgW; rw [wA_sA, if_neg (by decide)]
theorem prW_127 (v : AW) : ∀ k, wA (prW v k) 127 = wA v 127
  | 0 => rfl
  | k + 1 => by
    rw [prW]
    split
    · rw [paW_127]; exact prW_127 v k
    · exact prW_127 v k
theorem urW_v (b : AW) : ∀ K r, wA (urW b K) 127 r = if r < K ∧ 0 < wA b 128 r ∧ unP b r then wA b 127 r + 1 else wA b 127 r
  | 0, r => by rw [if_neg (fun z => absurd z.1 (Nat.not_lt_zero _))]; rfl
  | K + 1, r => by
    have ih := urW_v b K
    rw [urW]
    by_cases z : 0 < wA b 128 K ∧ unP b K
    · rw [if_pos z, wA_sA, if_pos rfl]
      by_cases y : r = K
      · subst y
        rw [if_pos rfl, ih, if_neg (fun q => absurd q.1 (Nat.lt_irrefl _)), if_pos ⟨Nat.lt_succ_self _, z⟩]
      · rw [if_neg y, ih]
        by_cases x : r < K ∧ 0 < wA b 128 r ∧ unP b r
        · rw [if_pos x, if_pos ⟨by omega, x.2⟩]
        · rw [if_neg x, if_neg (fun q => x ⟨by omega, q.2⟩)]
    · rw [if_neg z, ih]
      by_cases x : r < K ∧ 0 < wA b 128 r ∧ unP b r
      · rw [if_pos x, if_pos ⟨by omega, x.2⟩]
      · rw [if_neg x, if_neg (fun q => x ⟨by
          by_cases y : r = K
          · subst y; exact absurd q.2 z
          · omega, q.2⟩)]
theorem urW_A (b : AW) {t : Nat} (ht : t ≠ 127) : ∀ K, wA (urW b K) t = wA b t
  | 0 => rfl
  | K + 1 => by
    rw [urW]
    split
    · funext j; rw [wA_sA, if_neg ht]; rw [urW_A b ht K]
    · exact urW_A b ht K
/-- class and reference between two hours -/
def DD (w u v : AW) (t : Nat) : Prop := CS w u ∧ VS w v ∧ wI u 716 200 = nI t ∧ wI v 769 100 = nI t ∧ (∀ x, x < ct w 201 → wA v 112 x = wI u 649 (1000 + x)) ∧ BKE u v ∧ (∀ r, r < ct w 202 → wA v 127 r = wI u 522 (1200 + r)) ∧ ∀ r, ct w 202 ≤ r → wA v 127 r = wA w 127 r
theorem works_eq {n t : Nat} {w U V : AW} (h : Rel n w) (cs : CS w U) (vs : VS w V) (ht : t ≤ 200000) (hU : wI U 716 200 = nI t) (hV : wI V 769 100 = nI t) (hl : ∀ x, x < ct w 201 → wA V 112 x = wI U 649 (1000 + x)) (hb : BKE U V) (ha : ∀ r, r < ct w 202 → ¬ wL w (1300 + r) = [] → AF w U r t) : ∀ i, i ≤ ct w 201 → BKE (phB U i) (prW V i) ∧ ∀ x, x < ct w 201 → wA (prW V i) 112 x = wI (phB U i) 649 (1000 + x)
  | 0, _ => ⟨hb, hl⟩
  | i + 1, hi => by
    obtain ⟨i1, i2⟩ := works_eq h cs vs ht hU hV hl hb ha i (by omega)
    have hk : i < ct w 201 := hi
    have bd := h.ci.bd
    obtain ⟨w1, w2, w3, w4, w5, w6, w7, w8⟩ := h.wk i hk
    rw [phB, prW, vs.1 110 (by decide) (by decide), vs.1 111 (by decide) (by decide), w6, w7, cs.2.1]
    rcases h.g.2 i hk with ⟨r, hr, a, b, d⟩ | ⟨a, b⟩
    · rw [a, b, d, if_pos rfl, if_neg (by intro z; cases z), nI_clamp (by omega)]
      have er : (some (1200 + r) : Option Nat).getD 1200 - 1200 = r := by show 1200 + r - 1200 = r; omega
      rw [er]
      have hne : ¬ wL w (1300 + r) = [] := fun z => by
        have q := ((h.g.1 r hr).2 i hk).mpr a
        rw [z] at q; exact absurd q List.not_mem_nil
      have af := ha r hr hne
      have ss := phB_ss U i
      refine pass_eq h (cs.trans (CS.pb U i)) (vs.pr (prW_pr V i)) ht ?_ ?_ hk hr i2 i1 ?_
      · rw [ss.2.2.2.2.2 716 200 (by decide)]; exact hU
      · rw [(prW_pr V i).2.2.2.2.2.2.1 769 100 (by decide)]; exact hV
      · unfold AF
        rw [ss.2.2.2.2.2 520 _ (by decide), ss.2.2.2.2.2 521 _ (by decide)]; exact af
    · rw [a, if_pos rfl, if_neg b]; exact ⟨i1, i2⟩
theorem hour_step {n t : Nat} {w u v : AW} (h : Rel n w) (ht : t ≤ 200000) (hd : DD w u v t) : DD w (waS u) (hrW v) (t + 1) := by
  obtain ⟨cs, vs, hU, hV, hl, hb, hun, hun2⟩ := hd
  have hC := h.ci
  have bd := hC.bd
  have c1 : ct u 201 = ct w 201 := by unfold ct; rw [cs.2.2.2.1]
  have c2 : ct u 202 = ct w 202 := by unfold ct; rw [cs.2.2.2.1]
  have csA : CS w (phA u (ct w 202)) := cs.trans (CS.pa u _)
  have ssA := phA_ss u (ct w 202)
  have eq24 : wI u 716 200 - wI u 716 200 / 24 * 24 = nI (t % 24) := by rw [hU, nI_rem24 (by omega)]
  have pv := phA_v u (ct w 202)
  rw [eq24] at pv
  have afA : ∀ r, r < ct w 202 → ¬ wL w (1300 + r) = [] → AF w (phA u (ct w 202)) r t := fun r hr hne => by
    obtain ⟨p1, p2, p3⟩ := pv r
    obtain ⟨a1, a2⟩ := air_cs cs r (nI (t % 24))
    obtain ⟨b1, b2⟩ := air_eq (t := t) h hr
    have pz : r < ct w 202 ∧ ¬ wL u (1300 + r) = [] := ⟨hr, by rw [cs.2.2.2.1]; exact hne⟩
    rw [if_pos pz] at p1 p2
    unfold AF
    rw [p1, p2]
    unfold s520
    rw [a1, a2]
    refine ⟨fun y => ?_, fun y => ?_⟩
    · rw [if_pos (b1.mpr y)]
    · have ny : ¬ airV w r (nI (t % 24)) = true := fun z => y (b1.mp z)
      rw [if_neg ny, if_neg ny, b2 y, cut_eq]
      exact ⟨rfl, rfl⟩
  have hVp : ∀ K, wI (prW v K) 769 100 = nI t := fun K => by rw [(prW_pr v K).2.2.2.2.2.2.1 769 100 (by decide)]; exact hV
  obtain ⟨kb, kl⟩ := works_eq h csA vs ht (by rw [ssA.2.2.2.2.2 716 200 (by decide)]; exact hU) hV (fun x hx => by rw [ssA.2.2.2.2.2 649 _ (by decide)]; exact hl x hx) (by
    unfold BKE
    rw [ssA.2.2.2.2.2 67 _ (by decide), phA_A]; exact hb) afA (ct w 201) (Nat.le_refl _)
  have k1 : (wI v 770 100).toNatClampNeg = ct w 201 := by rw [vs.2 770 (by decide), h.c.1, nI_clamp (by omega)]
  have k2 : (wI v 787 100).toNatClampNeg = ct w 202 := by rw [vs.2 787 (by decide), h.c.2.1, nI_clamp (by omega)]
  have eP : phW u = phB (phA u (ct w 202)) (ct w 201) := by
    unfold phW; rw [c1, c2]
  have eH : hrB v = urW (prW v (ct w 201)) (ct w 202) := by
    unfold hrB; rw [k1, k2]
  have ssB := phB_ss (phA u (ct w 202)) (ct w 201)
  have hu7 : wI (phW u) 716 200 = nI t := by rw [(phW_ss u).2.2.2.2.2 716 200 (by decide)]; exact hU
  have hv7 : wI (hrB v) 769 100 = nI t := by rw [(hrB_pr v).2.2.2.2.2.2.1 769 100 (by decide)]; exact hV
  have vs2 : VS w (hrB v) := vs.pr (hrB_pr v)
  refine ⟨?_, ?_, ?_, ?_, fun x hx => ?_, ?_, fun r hr => ?_, fun r hr => ?_⟩
  · unfold waS
    refine CS.ht ?_ _
    rw [eP]; exact csA.trans (CS.pb _ _)
  · unfold hrW
    refine ⟨fun t h1 h2 => ?_, fun k hk => ?_⟩
    · rw [wA_sI]; exact vs2.1 t h1 h2
    · rw [wI_sI, if_neg (fun z => by rw [z] at hk; exact absurd hk (by decide))]; exact vs2.2 k hk
  · unfold waS
    rw [wI_sI, if_pos rfl, if_pos rfl, hu7]; exact nI_succ1 t
  · unfold hrW
    rw [wI_sI, if_pos rfl, if_pos rfl, hv7]; exact nI_succ1 t
  · unfold waS hrW
    rw [wA_sI, wI_sI, if_neg (by decide), eP, eH, urW_A _ (by decide)]
    exact kl x hx
  · unfold waS hrW BKE
    simp only [wI_sI, wA_sI, Nat.reduceEqDiff, reduceIte, if_true, if_false]
    rw [eP, eH, urW_c, urW_A _ (by decide), urW_A _ (by decide), urW_A _ (by decide)]
    exact kb
  · unfold waS hrW
    rw [wA_sI, wI_sI, if_neg (by decide), eP, eH, urW_v, prW_127, ssB.2.2.2.2.2 522 _ (by decide), (pv r).2.2, hun r hr]
    have vsP := vs.pr (prW_pr v (ct w 201))
    have g7 := (h.r r hr).2.2.2.2.2.2.1
    have h40 := hung_le h hr
    have e128 : (0 < wA (prW v (ct w 201)) 128 r) ↔ ¬ wL u (1300 + r) = [] := by
      rw [vsP.1 128 (by decide) (by decide), g7, cs.2.2.2.1, show (0 : Int32) = nI 0 from rfl, nI_ltI (by decide) (by omega)]
      constructor
      · intro a z
        have a : 0 < (wL w (1300 + r)).length := a
        rw [z] at a; exact absurd a (Nat.lt_irrefl _)
      · intro a
        exact List.length_pos_iff.mpr a
    obtain ⟨a1, a2⟩ := air_cs cs r (nI (t % 24))
    obtain ⟨b1, b2⟩ := air_eq (t := t) h hr
    have eu : unP (prW v (ct w 201)) r ↔ airV u r (nI (t % 24)) = true := by
      rw [a1, b1]
      show (wA (prW v (ct w 201)) 126 r = -1 ∨ wA (prW v (ct w 201)) 118 (wA (prW v (ct w 201)) 126 r).toNatClampNeg = -1 ∨ wA (prW v (ct w 201)) 118 (wA (prW v (ct w 201)) 126 r).toNatClampNeg ≤ (wI (prW v (ct w 201)) 769 100 - wI (prW v (ct w 201)) 769 100 / 24 * 24)) ↔ _
      rw [vsP.1 126 (by decide) (by decide), vsP.1 118 (by decide) (by decide), hVp, nI_rem24 (by omega)]
      exact Iff.rfl
    by_cases x : ¬ wL u (1300 + r) = []
    · by_cases y : airV u r (nI (t % 24)) = true
      · rw [if_pos ⟨hr, e128.mpr x, eu.mpr y⟩, if_pos ⟨hr, x⟩, if_pos y]
      · rw [if_neg (fun z => y (eu.mp z.2.2)), if_pos ⟨hr, x⟩, if_neg y]
    · rw [if_neg (fun z => x (e128.mp z.2.1)), if_neg (fun z => x z.2)]
  · unfold hrW
    rw [wA_sI, eH, urW_v, prW_127, if_neg (fun z => by omega)]
    exact hun2 r hr
theorem DD.rc {w u v : AW} {t : Nat} (h : DD w u v t) : DD w (rcW u 10) v t := by
  obtain ⟨cs, vs, hU, hV, hl, hb, hun, hun2⟩ := h
  refine ⟨cs.trans (CS.rc u 10), vs, by rw [rcW_I]; exact hU, hV, by rw [rcW_I]; exact hl, ?_, by rw [rcW_I]; exact hun, hun2⟩
  unfold BKE
  rw [rcW_I, rcW_A]; exact hb
theorem wa_dd {n t : Nat} {w U0 : AW} (h : Rel n w) (hd : DD w w (sI U0 768 100 0) t) : ∀ i, t + i ≤ 200000 → DD w (waW w i) (wtR U0 i) (t + i)
  | 0, _ => hd
  | i + 1, hi => by
    have ih := wa_dd h hd i (by omega)
    rw [waW, wtR]
    split
    · exact hour_step h (show t + i ≤ 200000 by omega) ih.rc
    · exact hour_step h (show t + i ≤ 200000 by omega) ih
theorem quiet {n : Nat} {w : AW} (h : Rel n w) (hq : ∀ r, r < ct w 202 → wL w (1300 + r) = []) (x : Int32) : phW (sI w 716 200 x) = sI w 716 200 x := by
  have hA : ∀ i, i ≤ ct w 202 → phA (sI w 716 200 x) i = sI w 716 200 x := fun i => by
    induction i with
    | zero => intro _; rfl
    | succ i ih =>
      intro hi
      rw [phA, wL_sI, if_pos (hq i hi)]; exact ih (by omega)
  have hB : ∀ i, i ≤ ct w 201 → phB (sI w 716 200 x) i = sI w 716 200 x := fun i => by
    induction i with
    | zero => intro _; rfl
    | succ i ih =>
      intro hi
      have e : wR w 650 (1000 + i) = none := by
        rcases h.g.2 i hi with ⟨r, hr, a, b, d⟩ | ⟨a, b⟩
        · have q := ((h.g.1 r hr).2 i hi).mpr a
          rw [hq r hr] at q; exact absurd q List.not_mem_nil
        · exact a
      rw [phB, wR_sI, if_pos e]; exact ih (by omega)
  unfold phW
  have c1 : ct (sI w 716 200 x) 201 = ct w 201 := rfl
  have c2 : ct (sI w 716 200 x) 202 = ct w 202 := rfl
  rw [c1, c2, hA _ (Nat.le_refl _), hB _ (Nat.le_refl _)]
theorem qu_dd {n t : Nat} {w U0 : AW} (h : Rel n w) (hq : ∀ r, r < ct w 202 → wL w (1300 + r) = []) (hd : DD w (sI w 716 200 (nI t)) (sI U0 768 100 0) t) : ∀ i, t + i ≤ 200000 → DD w (sI w 716 200 (nI (t + i))) (wtR U0 i) (t + i)
  | 0, _ => hd
  | i + 1, hi => by
    have ih := qu_dd h hq hd i (by omega)
    have q := hour_step h (by omega) ih
    unfold waS at q
    rw [quiet h hq, wI_sI, if_pos rfl, if_pos rfl, sI_sI, nI_succ1] at q
    rw [wtR]
    exact q

