section SEM4
variable {p : Program} {l : Launch} {e : Env} {R : Room} {s : State} {m : MethodId} {args : Array Value} {below : List Frame} {meth : Method} {c : Code}
variable {E : AE} {S : MS} {M : MT} {cc : ByteArray} {mc ms : Nat} {w0 : AW} {ad0 : AM} {Q : AO → AW → Prop}
theorem k50 {ad : AM} {w : AW} {H : Heap} (h : Conc E ad w H) {i : Nat} (hT : wT w i = 50) : ad.1 i = E.1.2 60 i := (h.2.2.1 i).2.2.2.2.2.2.2.1 hT
theorem lvv_k {w : AW} {i : Nat} (hT : wT w i = 50) : lvv w (.ref i) := fun j hj => by cases hj; omega
theorem cv_k {ad : AM} {w : AW} {H : Heap} (h : Conc E ad w H) {i : Nat} (hT : wT w i = 50) : cv ad (.ref i) = .ref (E.1.2 60 i) := by show Value.ref (ad.1 i) = _; rw [k50 h hT]
theorem so_getstatic (C : Cx p l R s m args meth c E S cc mc ms) (V : MV l R E S.1 cc M) {pc n k : Nat} {L : AL} {t : List Value} {w : AW} {b : Nat × Nat} (hd : decode cc pc = .ok (.getstatic n, 3)) (hf : M.2.1 n = some (60, k)) (h99 : ¬ k = 99) (h19 : ¬ k = 19) (hT : wT w k = 50) (k1 : Sm p l e R s m args below meth c E S mc ms w0 ad0 Q (pc + 3) L (.ref k :: t) w b) : Sm p l e R s m args below meth c E S mc ms w0 ad0 Q pc L t w b := by
  intro ad H locs ls cells slots h1 h2 h3 h4 h5 h6 h7 h8
  obtain ⟨hx, hb, hml, hown, hts, hK, -, hlocks, hbase, hrc, hrs, -, htab, hst, hKY⟩ := id C
  have kk := k1 ad H locs ls cells slots h1 h2 h3 (lcv (lvv_k hT) h4) h5 h6 h7 h8
  rw [List.map_cons, cv_k h1 hT] at kk
  rcases (V.2.1 _ _ _ hf).2.1 rfl with ⟨a1, a2, a3⟩ | ⟨rfl, a3⟩ | ⟨rfl, a3⟩ | ⟨a1, a3⟩ | ⟨a1, a3⟩
  · have hz := (hKY.2.2.2.2.1 (k - 10) (by omega)).1
    rw [show 10 + (k - 10) = k by omega] at hz
    exact va_gets hx hb hz h5 hown (hts _ a3) (fun _ h => h) hd kk
  · exact va_getsN hx hb hKY.2.2.2.2.2.2.2.1.1 h5 hown (va_Nw.use rfl (hKY.2.2.1 _ a3)) (fun _ h => h) hd kk
  · exact va_gets hx hb hKY.2.2.2.2.2.2.2.2.1.1 h5 hown (hts _ a3) (fun _ h => h) hd kk
  · omega
  · omega
theorem so_getstaticS (C : Cx p l R s m args meth c E S cc mc ms) (V : MV l R E S.1 cc M) {pc n : Nat} {L : AL} {t : List Value} {w : AW} {b : Nat × Nat} (hd : decode cc pc = .ok (.getstatic n, 3)) (hf : M.2.1 n = some (60, 19)) (k0 : Sm p l e R s m args below meth c E S mc ms w0 ad0 Q (pc + 3) L (.null :: t) w b) (hT : wT w 19 = 50) (k1 : Sm p l e R s m args below meth c E S mc ms w0 ad0 Q (pc + 3) L (.ref 19 :: t) w b) : Sm p l e R s m args below meth c E S mc ms w0 ad0 Q pc L t w b := by
  intro ad H locs ls cells slots h1 h2 h3 h4 h5 h6 h7 h8
  obtain ⟨hx, hb, hml, hown, hts, hK, -, hlocks, hbase, hrc, hrs, -, htab, hst, hKY⟩ := id C
  have kk0 := k0 ad H locs ls cells slots h1 h2 h3 (lcv (lvv_null _) h4) h5 h6 h7 h8
  have kk := k1 ad H locs ls cells slots h1 h2 h3 (lcv (lvv_k hT) h4) h5 h6 h7 h8
  rw [List.map_cons, cv_k h1 hT] at kk
  rcases (V.2.1 _ _ _ hf).2.1 rfl with ⟨a1, a2, a3⟩ | ⟨a1, a3⟩ | ⟨a1, a3⟩ | ⟨a1, a3⟩ | ⟨a1, a3⟩
  · omega
  · omega
  · omega
  · omega
  · rcases hKY.2.2.2.2.2.2.2.2.2.2.2.2 with hz | hz
    · exact va_gets hx hb hz h5 hown (hts _ a3) (fun _ h => h) hd kk0
    · exact va_gets hx hb hz h5 hown (hts _ a3) (fun _ h => h) hd kk
theorem so_getstaticC (C : Cx p l R s m args meth c E S cc mc ms) (V : MV l R E S.1 cc M) {pc n : Nat} {L : AL} {t : List Value} {w : AW} {b : Nat × Nat} (hd : decode cc pc = .ok (.getstatic n, 3)) (hf : M.2.1 n = some (60, 99)) (k1 : Sm p l e R s m args below meth c E S mc ms w0 ad0 Q (pc + 3) L (.int 1 :: t) w b) : Sm p l e R s m args below meth c E S mc ms w0 ad0 Q pc L t w b := by
  intro ad H locs ls cells slots h1 h2 h3 h4 h5 h6 h7 h8
  obtain ⟨hx, hb, hml, hown, hts, hK, -, hlocks, hbase, hrc, hrs, -, htab, hst, hKY⟩ := id C
  have kk := k1 ad H locs ls cells slots h1 h2 h3 (lcv (lvv_int _ _) h4) h5 h6 h7 h8
  rcases (V.2.1 _ _ _ hf).2.1 rfl with ⟨a1, a2, a3⟩ | ⟨a1, a3⟩ | ⟨a1, a3⟩ | ⟨a1, a3⟩ | ⟨a1, a3⟩
  · omega
  · omega
  · omega
  · exact va_gets hx hb hKY.2.2.2.2.2.2.2.2.2.1 h5 hown (hts _ a3) (fun _ h => h) hd kk
  · omega
theorem so_getK (C : Cx p l R s m args meth c E S cc mc ms) (V : MV l R E S.1 cc M) {pc n k i : Nat} {L : AL} {t : List Value} {w : AW} {b : Nat × Nat} (hd : decode cc pc = .ok (.getfield n, 3)) (hf : M.2.1 n = some (61, k)) (hT : wT w i = 50) (hk2 : k < 2) (hi1 : 10 + 10 * k ≤ i) (hi2 : i < 16 + 10 * k) (hT2 : wT w (i + 10) = 50) (k1 : Sm p l e R s m args below meth c E S mc ms w0 ad0 Q (pc + 3) L (.ref (i + 10) :: t) w b) : Sm p l e R s m args below meth c E S mc ms w0 ad0 Q pc L (.ref i :: t) w b := by
  intro ad H locs ls cells slots h1 h2 h3 h4 h5 h6 h7 h8
  obtain ⟨hx, hb, hml, hown, hts, hK, -, hlocks, hbase, hrc, hrs, -, htab, hst, hKY⟩ := id C
  have kk := k1 ad H locs ls cells slots h1 h2 h3 (lcv (lvv_k hT2) (lt1 h4)) h5 h6 h7 h8
  rw [List.map_cons, cv_k h1 hT2] at kk
  rw [List.map_cons, cv_k h1 hT]
  rcases (V.2.1 _ _ _ hf).2.2 rfl with ⟨rfl, a3⟩ | ⟨rfl, a3⟩ | ⟨a1, a3⟩
  · have hz := (hKY.2.2.2.2.1 (i - 10) (by omega)).2
    rw [show 10 + (i - 10) = i by omega, show 20 + (i - 10) = i + 10 by omega] at hz
    exact vk_getf hx hb hz h5 hown (hts _ a3) (fun _ h => h) hd kk
  · have hz := (hKY.2.2.2.2.2.2.1.1 (i - 20) (by omega)).2.2.1
    dsimp only at hz
    rw [show 20 + (i - 20) = i by omega, show 30 + (i - 20) = i + 10 by omega] at hz
    exact vk_getf hx hb hz h5 hown (hts _ a3) (fun _ h => h) hd kk
  · omega
theorem so_getKc (C : Cx p l R s m args meth c E S cc mc ms) (V : MV l R E S.1 cc M) {pc n i : Nat} {L : AL} {t : List Value} {w : AW} {b : Nat × Nat} (hd : decode cc pc = .ok (.getfield n, 3)) (hf : M.2.1 n = some (61, 2)) (hT : wT w i = 50) (hi1 : 20 ≤ i) (hi2 : i < 26) (k1 : Sm p l e R s m args below meth c E S mc ms w0 ad0 Q (pc + 3) L (.int 0 :: t) w b) : Sm p l e R s m args below meth c E S mc ms w0 ad0 Q pc L (.ref i :: t) w b := by
  intro ad H locs ls cells slots h1 h2 h3 h4 h5 h6 h7 h8
  obtain ⟨hx, hb, hml, hown, hts, hK, -, hlocks, hbase, hrc, hrs, -, htab, hst, hKY⟩ := id C
  have kk := k1 ad H locs ls cells slots h1 h2 h3 (lcv (lvv_int _ _) (lt1 h4)) h5 h6 h7 h8
  rw [List.map_cons, cv_k h1 hT]
  rcases (V.2.1 _ _ _ hf).2.2 rfl with ⟨a1, a3⟩ | ⟨a1, a3⟩ | ⟨a1, a3⟩
  · omega
  · omega
  · have hz := (hKY.2.2.2.2.2.2.1.1 (i - 20) (by omega)).2.1
    dsimp only at hz
    rw [show 20 + (i - 20) = i by omega] at hz
    exact vk_getf hx hb hz h5 hown (hts _ a3) (fun _ h => h) hd kk
theorem kLen_ok {k : Nat} (h : k < 6) : [6, 5, 5, 4, 4, 5].getD k 0 = (kByt k).length ∧ [kByt 0, kByt 1, kByt 2, kByt 3, kByt 4, kByt 5].getD k [] = kByt k := by
  match k, h with
  | 0, _ => exact ⟨rfl, rfl⟩
  | 1, _ => exact ⟨rfl, rfl⟩
  | 2, _ => exact ⟨rfl, rfl⟩
  | 3, _ => exact ⟨rfl, rfl⟩
  | 4, _ => exact ⟨rfl, rfl⟩
  | 5, _ => exact ⟨rfl, rfl⟩
  | k + 6, h => exact absurd h (by omega)
theorem so_alen (C : Cx p l R s m args meth c E S cc mc ms) {pc i n : Nat} {L : AL} {t : List Value} {w : AW} {b : Nat × Nat} (hd : decode cc pc = .ok (.arraylength, 1)) (hA : alR w i n) (k1 : Sm p l e R s m args below meth c E S mc ms w0 ad0 Q (pc + 1) L (.int (Int32.ofNat n) :: t) w b) : Sm p l e R s m args below meth c E S mc ms w0 ad0 Q pc L (.ref i :: t) w b := by
  rcases hA with ⟨hT, rfl⟩ | ⟨hT, hA⟩
  · rcases hT with hT | hT | hT | hT | hT | hT
    · exact so_arraylength C hd (Or.inl hT) k1
    · exact so_arraylength C hd (Or.inr (Or.inl hT)) k1
    · exact so_arraylength C hd (Or.inr (Or.inr hT)) k1
    all_goals
      intro ad H locs ls cells slots h1 h2 h3 h4 h5 h6 h7 h8
      obtain ⟨hx, hb, hml, hown, hts, hK, -, hlocks, hbase, hrc, hrs, -, htab, hst, hKY⟩ := id C
      have kk := k1 ad H locs ls cells slots h1 h2 h3 (lcv (lvv_int _ _) (lt1 h4)) h5 h6 h7 h8
    · exact W.alen (n := Int32.ofNat (wN w i)) hx hb ((h1.2.2.1 i).2.2.2.2.1 hT) (hKY.1.1 _ _) (by rw [arrV_size] <;> rfl) rfl rfl hd kk
    · exact W.alen (n := Int32.ofNat (wN w i)) hx hb ((h1.2.2.1 i).2.2.2.2.2.1 hT) (hKY.2.1.1 _ _) (by rw [arrV_size] <;> rfl) rfl rfl hd kk
    · exact hT.2.elim
  · intro ad H locs ls cells slots h1 h2 h3 h4 h5 h6 h7 h8
    obtain ⟨hx, hb, hml, hown, hts, hK, -, hlocks, hbase, hrc, hrs, -, htab, hst, hKY⟩ := id C
    have kk := k1 ad H locs ls cells slots h1 h2 h3 (lcv (lvv_int _ _) (lt1 h4)) h5 h6 h7 h8
    rw [List.map_cons, cv_k h1 hT]
    rcases hA with ⟨rfl, rfl⟩ | ⟨rfl, rfl⟩ | ⟨a1, a2, rfl⟩
    · exact va_tlen hx hb hKY.2.2.2.2.2.2.2.1.2 h5 rfl hd kk
    · exact va_tlen hx hb hKY.2.2.2.2.2.2.2.2.1.2 h5 rfl hd kk
    · have hz := (hKY.2.2.2.2.2.2.1.1 (i - 30) (by omega)).2.2.2
      dsimp only at hz
      rw [show 30 + (i - 30) = i by omega, (kLen_ok (show i - 30 < 6 by omega)).1] at hz
      exact va_tlen hx hb hz h5 rfl hd kk
theorem so_iald51 (C : Cx p l R s m args meth c E S cc mc ms) {pc i : Nat} {L : AL} {x : Int32} {t : List Value} {w : AW} {b : Nat × Nat} (hd : decode cc pc = .ok (.iaload, 1)) (hT : wT w i = 51 ∧ False) (hin : vp_in x (wN w i)) (k : Sm p l e R s m args below meth c E S mc ms w0 ad0 Q (pc + 1) L (.int (wA w i x.toNatClampNeg) :: t) w b) : Sm p l e R s m args below meth c E S mc ms w0 ad0 Q pc L (.int x :: .ref i :: t) w b := hT.2.elim
theorem so_baldK (C : Cx p l R s m args meth c E S cc mc ms) {pc i : Nat} {L : AL} {x : Int32} {t : List Value} {w : AW} {b : Nat × Nat} (hd : decode cc pc = .ok (.baload, 1)) (hT : wT w i = 50) (a1 : 30 ≤ i) (a2 : i < 36) (hin : vp_in x (kByt (i - 30)).length) (k : Sm p l e R s m args below meth c E S mc ms w0 ad0 Q (pc + 1) L (.int ((kByt (i - 30)).getD x.toNatClampNeg 0) :: t) w b) : Sm p l e R s m args below meth c E S mc ms w0 ad0 Q pc L (.int x :: .ref i :: t) w b := by
  intro ad H locs ls cells slots h1 h2 h3 h4 h5 h6 h7 h8
  obtain ⟨hx, hb, hml, hown, hts, hK, -, hlocks, hbase, hrc, hrs, -, htab, hst, hKY⟩ := id C
  have hk := kLen_ok (show i - 30 < 6 by omega)
  have hz := (hKY.2.2.2.2.2.2.1.1 (i - 30) (by omega)).2.2.2
  dsimp only at hz
  rw [show 30 + (i - 30) = i by omega, hk.1, hk.2] at hz
  rw [List.map_cons, List.map_cons, cv_k h1 hT]
  exact va_tb hx hb hz h5 hin rfl hd (k ad H locs ls cells slots h1 h2 h3 (lcv (lvv_int _ _) (lt1 (lt1 h4))) h5 h6 h7 h8)
theorem so_aald (C : Cx p l R s m args meth c E S cc mc ms) {pc i : Nat} {L : AL} {x : Int32} {t : List Value} {w : AW} {b : Nat × Nat} (hd : decode cc pc = .ok (.aaload, 1)) (hT : wT w i = 23 ∨ wT w i = 24) (hin : vp_in x (wN w i)) (k : Sm p l e R s m args below meth c E S mc ms w0 ad0 Q (pc + 1) L (va_rf (wP w i x.toNatClampNeg) :: t) w b) : Sm p l e R s m args below meth c E S mc ms w0 ad0 Q pc L (.int x :: .ref i :: t) w b := by
  intro ad H locs ls cells slots h1 h2 h3 h4 h5 h6 h7 h8
  obtain ⟨hx, hb, hml, hown, hts, hK, -, hlocks, hbase, hrc, hrs, -, htab, hst, hKY⟩ := id C
  have hlt : x.toNatClampNeg < wN w i := Nat.not_le.mp fun q => hin (Or.inr q)
  have hlive : lvv w (va_rf (wP w i x.toNatClampNeg)) := by
    intro j hj
    cases hr : wP w i x.toNatClampNeg with
    | none => rw [hr] at hj; cases hj
    | some z => rw [hr] at hj; cases hj; exact h1.2.2.2.2.1 i _ j (by omega) hr
  have kk := k ad H locs ls cells slots h1 h2 h3 (lcv hlive (lt1 (lt1 h4))) h5 h6 h7 h8
  rw [List.map_cons, cv_rf] at kk
  rcases hT with hT | hT
  · exact W.aald (v := va_rf ((wP w i x.toNatClampNeg).map ad.1)) (ty := .object "java/lang/Object") hx hb ((h1.2.2.1 i).2.2.2.2.1 hT) (hKY.1.1 _ _) rfl (fun q => by cases q) (by rw [arrV_size]; exact hin) (by rw [arrV_read _ _ hlt]) rfl rfl hd kk
  · exact W.aald (v := va_rf ((wP w i x.toNatClampNeg).map ad.1)) (ty := .object RX6) hx hb ((h1.2.2.1 i).2.2.2.2.2.1 hT) (hKY.2.1.1 _ _) rfl (fun q => by cases q) (by rw [arrV_size]; exact hin) (by rw [arrV_read _ _ hlt]) rfl rfl hd kk
theorem so_aaldK (C : Cx p l R s m args meth c E S cc mc ms) {pc : Nat} {L : AL} {x : Int32} {t : List Value} {w : AW} {b : Nat × Nat} (hd : decode cc pc = .ok (.aaload, 1)) (hT : wT w 16 = 50) (hin : vp_in x 6) (hT2 : wT w (10 + x.toNatClampNeg) = 50) (k : Sm p l e R s m args below meth c E S mc ms w0 ad0 Q (pc + 1) L (.ref (10 + x.toNatClampNeg) :: t) w b) : Sm p l e R s m args below meth c E S mc ms w0 ad0 Q pc L (.int x :: .ref 16 :: t) w b := by
  intro ad H locs ls cells slots h1 h2 h3 h4 h5 h6 h7 h8
  obtain ⟨hx, hb, hml, hown, hts, hK, -, hlocks, hbase, hrc, hrs, -, htab, hst, hKY⟩ := id C
  have kk := k ad H locs ls cells slots h1 h2 h3 (lcv (lvv_k hT2) (lt1 (lt1 h4))) h5 h6 h7 h8
  rw [List.map_cons, cv_k h1 hT2] at kk
  rw [List.map_cons, List.map_cons, cv_k h1 hT]
  exact vb_tq hx hb hKY.2.2.2.2.2.2.2.1.2 h5 hin rfl hd kk
/-- a thing of ours may lie in a row of objects -/
theorem any_obj {ad : AM} {w : AW} {H : Heap} (hKY : KY E s s.heap) (hK : KK E s) (h1 : Conc E ad w H) {j : Nat} (a1 : 1 ≤ wT w j) (a2 : wT w j ≤ 13) : va_Any "java/lang/Object" s H (ad.1 j) := by
  obtain ⟨cell, q1, q2, q3, -⟩ := (h1.2.2.1 j).1 (wT w j - 1) (by omega) (by omega)
  have hc := (hK.1 (wT w j - 1) (by omega)).2
  obtain ⟨kC, hkC, -⟩ := hc.2
  refine ⟨cell, q1, by rw [q3]; rfl, ⟨kC, by rw [q2]; exact hkC⟩, fun comp hcomp => ?_⟩
  obtain ⟨c0, t1, f1, f2, f3⟩ := Cond.castable_spec (va_Nw.use (A := #[]) rfl (hKY.2.2.1 _ (ca_all (wT w j - 1) (by omega))))
  cases hc.1.symm.trans f1
  cases hcomp.symm.trans f2
  rw [q2]; exact f3
theorem so_aast (C : Cx p l R s m args meth c E S cc mc ms) {pc i : Nat} {L : AL} {x : Int32} {r : Option Nat} {t : List Value} {w : AW} {b : Nat × Nat} (hd : decode cc pc = .ok (.aastore, 1)) (hT : (wT w i = 23 ∧ ∀ j, r = some j → 1 ≤ wT w j ∧ wT w j ≤ 13) ∨ (wT w i = 24 ∧ ∀ j, r = some j → wT w j = 7)) (hin : vp_in x (wN w i)) (k : Sm p l e R s m args below meth c E S mc ms w0 ad0 Q (pc + 1) L t (sP w i x.toNatClampNeg r) b) : Sm p l e R s m args below meth c E S mc ms w0 ad0 Q pc L (va_rf r :: .int x :: .ref i :: t) w b := by
  intro ad H locs ls cells slots h1 h2 h3 h4 h5 h6 h7 h8
  obtain ⟨hx, hb, hml, hown, hts, hK, -, hlocks, hbase, hrc, hrs, -, htab, hst, hKY⟩ := id C
  have hlt : x.toNatClampNeg < wN w i := Nat.not_le.mp fun q => hin (Or.inr q)
  have h0 : ¬ x < 0 := fun q => hin (Or.inl q)
  have hT3 : wT w i = 23 ∨ wT w i = 24 := by rcases hT with h | h <;> simp [h.1]
  have hne : wT w i ≠ 0 := by omega
  have fin : ∀ H1 : Heap, H1[ad.1 i]? = some ((arrV (if wT w i = 23 then E.1.1 50 else E.1.1 51) (wN w i) (fun j => va_rf ((wP w i j).map ad.1))).setSlot x.toNatClampNeg (va_rf (r.map ad.1))) → H1.size = H.size → (∀ q, q ≠ ad.1 i → H1[q]? = H[q]?) → W p l e R s m args below meth c H1 (locs ++ [⟨ad.1 i, x.toNatClampNeg⟩]) cells slots (vx_MQ below (mQc E ad0 w0 Q) (mXc E ad0 w0 Q) args s mc ms (fun q => E.2.2 ≤ q)) (F0 m (pc + 1) ls (t.map (cv ad))) := by
    intro H1 e1 z oq
    rw [arrV_store] at e1
    have ef : updV (fun j => va_rf ((wP w i j).map ad.1)) x.toNatClampNeg (va_rf (r.map ad.1)) = fun j => va_rf ((wP (sP w i x.toNatClampNeg r) i j).map ad.1) := by
      funext q
      by_cases hq : q = x.toNatClampNeg
      · subst hq; simp [updV, wP_sP]
      · simp [updV, wP_sP, hq]
    rw [ef] at e1
    have hC1 : Conc E ad (sP w i x.toNatClampNeg r) H1 := by
      refine h1.put hne (by omega) z oq rfl (fun _ _ _ => rfl) (fun _ _ _ => rfl) rfl (fun _ _ => rfl) (fun _ _ => rfl) (fun j hj => by funext q; rw [wP_sP, if_neg hj]) rfl ?_ (fun k j hj => h1.2.2.2.1 k i j hne hj) (fun k j hj => ?_)
      · rcases hT3 with h | h
        · rw [if_pos h] at e1
          exact cOK.a23 (show wT w i = 23 from h) e1
        · rw [if_neg (by omega)] at e1
          exact cOK.a24 (show wT w i = 24 from h) e1
      · rw [wP_sP, if_pos rfl] at hj
        split at hj
        · subst hj; exact lh1 h4 j rfl
        · exact h1.2.2.2.2.1 i k j hne hj
    exact k ad H1 _ ls cells slots hC1 h2 (fun j u hj => wT_of_same rfl (h3 j u hj)) (fun u hu => wT_of_same rfl (lt1 (lt1 (lt1 h4)) u hu)) (h5.put z oq ((h1.1 i hne (by omega)).2 (by omega))) h6 h7 h8
  rw [List.map_cons, cv_rf]
  cases r with
  | none =>
    rcases hT with ⟨hT, -⟩ | ⟨hT, -⟩
    · refine va_WaastN (C := "java/lang/Object") hx hb ((h1.2.2.1 i).2.2.2.2.1 hT) (hKY.1.1 _ _) (fun h => by cases h) (by rw [arrV_size]; exact hin) rfl rfl hd fun H1 e1 z oq => fin H1 ?_ z oq
      rw [if_pos hT]; exact e1
    · refine va_WaastN (C := RX6) hx hb ((h1.2.2.1 i).2.2.2.2.2.1 hT) (hKY.2.1.1 _ _) (fun h => by cases h) (by rw [arrV_size]; exact hin) rfl rfl hd fun H1 e1 z oq => fin H1 ?_ z oq
      rw [if_neg (by omega)]; exact e1
  | some j =>
    rcases hT with ⟨hT, hj⟩ | ⟨hT, hj⟩
    · obtain ⟨hj1, hj2⟩ := hj j rfl
      obtain ⟨cellV, g1, g3, ⟨kC, hkC⟩, hasg⟩ := any_obj hKY hK h1 hj1 hj2
      obtain ⟨kA, comp, k1, k2, k3, -⟩ := hKY.1.2
      obtain ⟨kE, hkE, -⟩ := Vm.findClass_spec k3
      refine W.aast hx hb ((h1.2.2.1 i).2.2.2.2.1 hT) (fun q h => by cases h) (fun h => by cases h) k1 k2 rfl hkE ⟨h0, by rw [arrV_size]; exact hlt⟩ g1 (fun q h => by rw [h] at g3; cases g3) hkC (hasg _ k3) rfl rfl hd fun H1 e1 z oq => fin H1 ?_ z oq
      rw [if_pos hT]; exact e1
    · have hj7 := hj j rfl
      obtain ⟨cellV, q1, q2, q3, -⟩ := (h1.2.2.1 j).1 6 (by omega) hj7
      obtain ⟨kA, comp, k1, k2, k3, -⟩ := hKY.2.1.2
      obtain ⟨kE, hkE, -⟩ := Vm.findClass_spec k3
      have hc := (hK.1 6 (by omega)).2
      cases hc.1.symm.trans k3
      refine W.aast hx hb ((h1.2.2.1 i).2.2.2.2.2.1 hT) (fun q h => by cases h) (fun h => by cases h) k1 k2 rfl hkE ⟨h0, by rw [arrV_size]; exact hlt⟩ q1 (fun q h => by rw [q3] at h; cases h) (by rw [q2]; exact hkE) (by rw [q2]; exact va_asg _ _) rfl rfl hd fun H1 e1 z oq => fin H1 ?_ z oq
      rw [if_neg (by omega)]; exact e1
theorem so_anewO (C : Cx p l R s m args meth c E S cc mc ms) {pc n X : Nat} {x : Int32} {L : AL} {t : List Value} {w : AW} {b : Nat × Nat} (hd : decode cc pc = .ok (.anewarray n, 3)) (hlink : Cond.classLink S.1 n "java/lang/Object" ∈ TBL) (hn : ¬ x < 0) (hb8 : x.toNatClampNeg * 4 ≤ 536870912) (hb1 : 1 ≤ b.1) (hb2 : x.toNatClampNeg ≤ b.2) (hX : wT w X = 0) (k : Sm p l e R s m args below meth c E S mc ms w0 ad0 Q (pc + 3) L (.ref X :: t) (nA w X 23 x.toNatClampNeg) (b.1 - 1, b.2 - x.toNatClampNeg)) : Sm p l e R s m args below meth c E S mc ms w0 ad0 Q pc L (.int x :: t) w b := by
  intro ad H locs ls cells slots h1 h2 h3 h4 h5 h6 h7 h8
  obtain ⟨hx, hb, hml, hown, hts, hK, -, hlocks, hbase, hrc, hrs, -, htab, hst, hKY⟩ := id C
  refine W.anew hx hb hown (hts _ hlink) (va_AO.use (hKY.2.2.1 _ ao_obj)) rfl hd rfl hn hb8 (by rw [hrc]; omega) (by rw [hrs]; omega) fun cA kA comp q1 q2 q3 q4 => ?_
  obtain ⟨-, -, -, -, -, r4⟩ := hKY.1.2
  have ecA : cA = E.1.1 50 := Option.some.inj (q1.symm.trans r4)
  have hTX : wT (nA w X 23 x.toNatClampNeg) X = 23 := by rw [wT_nA, if_pos rfl]
  refine so_made (w1 := nA w X 23 x.toNatClampNeg) C hX (by simp) (fun q hq => by rw [Array.getElem?_push_lt hq, Array.getElem?_eq_getElem hq]) (by rw [hTX]; omega) (fun j hj => by rw [wT_nA, if_neg hj]) (fun k j hj => by rw [wI_nA, if_neg hj]) (fun k j hj => by rw [wR_nA, if_neg hj]) (fun j hj => by rw [wN_nA, if_neg hj]) (fun j hj => by funext q; rw [wA_nA, if_neg hj]) (fun j hj => by funext q; rw [wJ_nA, if_neg hj]) (fun j hj => by funext q; rw [wP_nA, if_neg hj]) (fun j hj => by rw [wL_nA, if_neg hj]) (by rw [hTX]; omega) (fun k => by rw [wR_nA, if_pos rfl]) (fun k => by rw [wP_nA, if_pos rfl]) (by rw [wL_nA, if_pos rfl]) (cOK.a23 hTX ?_) k h1 h2 h3 (lt1 h4) h5 h6 h7 h8 hb1 hb2
  have hself : up1 ad.1 X H.size X = H.size := by simp [up1]
  show (H.push _)[up1 ad.1 X H.size X]? = _
  rw [hself, Array.getElem?_push_size, arrV_new, ecA, wN_nA, if_pos rfl]
  congr 2
  funext j
  rw [wP_nA, if_pos rfl]
  rfl
theorem so_anewL (C : Cx p l R s m args meth c E S cc mc ms) {pc n X : Nat} {x : Int32} {L : AL} {t : List Value} {w : AW} {b : Nat × Nat} (hd : decode cc pc = .ok (.anewarray n, 3)) (hlink : Cond.classLink S.1 n RX6 ∈ TBL) (hn : ¬ x < 0) (hb8 : x.toNatClampNeg * 4 ≤ 536870912) (hb1 : 1 ≤ b.1) (hb2 : x.toNatClampNeg ≤ b.2) (hX : wT w X = 0) (k : Sm p l e R s m args below meth c E S mc ms w0 ad0 Q (pc + 3) L (.ref X :: t) (nA w X 24 x.toNatClampNeg) (b.1 - 1, b.2 - x.toNatClampNeg)) : Sm p l e R s m args below meth c E S mc ms w0 ad0 Q pc L (.int x :: t) w b := by
  intro ad H locs ls cells slots h1 h2 h3 h4 h5 h6 h7 h8
  obtain ⟨hx, hb, hml, hown, hts, hK, -, hlocks, hbase, hrc, hrs, -, htab, hst, hKY⟩ := id C
  refine W.anew hx hb hown (hts _ hlink) (va_AO.use (hKY.2.2.1 _ ao_loan)) rfl hd rfl hn hb8 (by rw [hrc]; omega) (by rw [hrs]; omega) fun cA kA comp q1 q2 q3 q4 => ?_
  obtain ⟨-, -, -, -, -, r4⟩ := hKY.2.1.2
  have ecA : cA = E.1.1 51 := Option.some.inj (q1.symm.trans r4)
  have hTX : wT (nA w X 24 x.toNatClampNeg) X = 24 := by rw [wT_nA, if_pos rfl]
  refine so_made (w1 := nA w X 24 x.toNatClampNeg) C hX (by simp) (fun q hq => by rw [Array.getElem?_push_lt hq, Array.getElem?_eq_getElem hq]) (by rw [hTX]; omega) (fun j hj => by rw [wT_nA, if_neg hj]) (fun k j hj => by rw [wI_nA, if_neg hj]) (fun k j hj => by rw [wR_nA, if_neg hj]) (fun j hj => by rw [wN_nA, if_neg hj]) (fun j hj => by funext q; rw [wA_nA, if_neg hj]) (fun j hj => by funext q; rw [wJ_nA, if_neg hj]) (fun j hj => by funext q; rw [wP_nA, if_neg hj]) (fun j hj => by rw [wL_nA, if_neg hj]) (by rw [hTX]; omega) (fun k => by rw [wR_nA, if_pos rfl]) (fun k => by rw [wP_nA, if_pos rfl]) (by rw [wL_nA, if_pos rfl]) (cOK.a24 hTX ?_) k h1 h2 h3 (lt1 h4) h5 h6 h7 h8 hb1 hb2
  have hself : up1 ad.1 X H.size X = H.size := by simp [up1]
  show (H.push _)[up1 ad.1 X H.size X]? = _
  rw [hself, Array.getElem?_push_size, arrV_new, ecA, wN_nA, if_pos rfl]
  congr 2
  funext j
  rw [wP_nA, if_pos rfl]
  rfl
theorem so_cast (C : Cx p l R s m args meth c E S cc mc ms) {pc n c0 i : Nat} {L : AL} {t : List Value} {w : AW} {b : Nat × Nat} (hd : decode cc pc = .ok (.checkcast n, 3)) (hlink : Cond.classLink S.1 n (vRn c0) ∈ TBL) (hc0 : c0 < 13) (hT : wT w i = c0 + 1) (k : Sm p l e R s m args below meth c E S mc ms w0 ad0 Q (pc + 3) L (.ref i :: t) w b) : Sm p l e R s m args below meth c E S mc ms w0 ad0 Q pc L (.ref i :: t) w b := by
  intro ad H locs ls cells slots h1 h2 h3 h4 h5 h6 h7 h8
  obtain ⟨hx, hb, hml, hown, hts, hK, -, hlocks, hbase, hrc, hrs, -, htab, hst, hKY⟩ := id C
  obtain ⟨cell, q1, q2, q3, -⟩ := (h1.2.2.1 i).1 c0 hc0 hT
  exact va_castE hx hb hown (hts _ hlink) ⟨cell, q1, by rw [q3]; rfl, by rw [q2]; exact (hK.1 c0 hc0).2.1⟩ hd (k ad H locs ls cells slots h1 h2 h3 h4 h5 h6 h7 h8)
theorem so_mirror (C : Cx p l R s m args meth c E S cc mc ms) {pc n : Nat} {L : AL} {t : List Value} {w : AW} {b : Nat × Nat} (hd : decode cc pc = .ok (.ldc n, 2)) (hlink : Cond.classLink S.1 n "[Ljava/lang/Object;" ∈ TBL) (hT : wT w 18 = 50) (k : Sm p l e R s m args below meth c E S mc ms w0 ad0 Q (pc + 2) L (.ref 18 :: t) w b) : Sm p l e R s m args below meth c E S mc ms w0 ad0 Q pc L t w b := by
  intro ad H locs ls cells slots h1 h2 h3 h4 h5 h6 h7 h8
  obtain ⟨hx, hb, hml, hown, hts, hK, -, hlocks, hbase, hrc, hrs, -, htab, hst, hKY⟩ := id C
  have kk := k ad H locs ls cells slots h1 h2 h3 (lcv (lvv_k hT) h4) h5 h6 h7 h8
  rw [List.map_cons, cv_k h1 hT] at kk
  exact va_ldcM hx hb hown (hts _ hlink) hKY.2.2.2.1 hd kk
theorem so_getClass (C : Cx p l R s m args meth c E S cc mc ms) (V : MV l R E S.1 cc M) {pc n i : Nat} {L : AL} {t : List Value} {w : AW} {b : Nat × Nat} {ci : CI} (hd : decode cc pc = .ok (.invokevirtual n, 3)) (hG : M.2.2.1 n = some ci) (h98 : ci.1 = 98) (hT : wT w i = 23) (hT18 : wT w 18 = 50) (hsum : wsum t ≤ 8) (k : Sm p l e R s m args below meth c E S mc ms w0 ad0 Q (pc + 3) L (.ref 18 :: t) w b) : Sm p l e R s m args below meth c E S mc ms w0 ad0 Q pc L (.ref i :: t) w b := by
  intro ad H locs ls cells slots h1 h2 h3 h4 h5 h6 h7 h8
  obtain ⟨hx, hb, hml, hown, hts, hK, -, hlocks, hbase, hrc, hrs, -, htab, hst, hKY⟩ := id C
  obtain ⟨g1, g2, g3⟩ := (V.2.2.1 n ci hG).2.1 h98
  have kk := k ad H locs ls cells slots h1 h2 h3 (lcv (lvv_k hT18) (lt1 h4)) h5 h6 h7 h8
  rw [List.map_cons, cv_k h1 hT18] at kk
  refine va_getC (C := "[Ljava/lang/Object;") (a := ad.1 i) hx hb (h2.1.trans hml.symm).symm hown (hts _ g1) (va_Nw.use rfl (hKY.2.2.1 _ gc_dec)) (hts _ gc_sel) (hts _ gc_inst) (hts _ gc_nat) hKY.2.2.2.1 ⟨_, (h1.2.2.1 i).2.2.2.2.1 hT, rfl, va_nmO hKY.1.2 (by decide)⟩ g2 ?_ hd kk
  rw [wsum_map]; omega
theorem so_rcv (C : Cx p l R s m args meth c E S cc mc ms) (V : MV l R E S.1 cc M) {pc n i : Nat} {L : AL} {r t : List Value} {w : AW} {b : Nat × Nat} {ci : CI} {Q1 : AO → AW → Prop} (hd : decode cc pc = .ok (.invokevirtual n, 3)) (hG : M.2.2.1 n = some ci) (hR : isRcv w ci.1 i) (hlen : (Value.ref i :: r).length = ci.2.1) (hsum : wsum t ≤ 8) (hb1 : ci.2.2.1 ≤ b.1) (hb2 : ci.2.2.2.1 ≤ b.2) (hsp : ci.2.2.2.2 (.ref i :: r) w Q1)
    (k1 : ∀ v w1, Q1 (.inl v) w1 → Sm p l e R s m args below meth c E S mc ms w0 ad0 Q (pc + 3) L (v.toList ++ t) w1 (b.1 - ci.2.2.1, b.2 - ci.2.2.2.1)) (k2 : ∀ C w1, Q1 (.inr C) w1 → Q (.inr C) w1) : Sm p l e R s m args below meth c E S mc ms w0 ad0 Q pc L ((Value.ref i :: r).reverse ++ t) w b := by
  intro ad H locs ls cells slots h1 h2 h3 h4 h5 h6 h7 h8
  obtain ⟨hx, hb, hml, hown, hts, hK, -, hlocks, hbase, hrc, hrs, -, htab, hst, hKY⟩ := id C
  obtain ⟨hRT, hR⟩ := hR
  obtain ⟨y, bytes, maxL, ret, fr, lo, np, hM, hfr, hlo, hco, hin, hli, hnm, -, hvi, -, -⟩ := (V.2.2.1 n ci hG).2.2.2.2.2.2 (by omega)
  obtain ⟨hinst, hsel, hcls, hnn⟩ := hvi (by omega) (by omega)
  have has : ∀ v ∈ (Value.ref i :: r), lvv w v := fun v hv => h4 v (List.mem_append_left _ (List.mem_reverse.mpr hv))
  have ht : ∀ v ∈ t, lvv w v := fun v hv => h4 v (List.mem_append_right _ hv)
  have hMet := hM (.ref i :: r) w Q1 hsp hst ad has
  have hrcv : ∃ cell : Cell, H[ad.1 i]? = some cell ∧ cell.vm.isStatics = false ∧ s.vm.findClass y.cls = some cell.cls := by
    rcases hR with h40 | ⟨h50, a1, a2⟩
    · rw [if_neg (by omega), if_pos h40] at hcls
      obtain ⟨⟨mm, cell, q1, q2, q3, -⟩, -⟩ := (h1.2.2.1 i).2.2.2.2.2.2.1 (by omega)
      exact ⟨cell, q1, by rw [q3]; rfl, by rw [hcls, q2]; exact (hK.1 0 (by omega)).2.1⟩
    · rw [if_pos h50] at hcls
      rw [hcls, k50 h1 (by omega)]
      have := vk_recv (i := i - 20) hKY.2.2.2.2.2.2.1 (by omega) h5
      rw [show 20 + (i - 20) = i by omega] at this
      exact this
  refine so_run (t := t) (kc := ci.2.2.1) (ks := ci.2.2.2.1) (b := b) (Q1 := Q1) (av := ((Value.ref i :: r).map (cv ad)).toArray) C ?_ k1 k2 h1 h2 h3 ht h5 h6 h7 h8 hb1 hb2
  exact vx_runV (Ts := TBL) (C := y.cls) (b := ad.1 i) (As := r.map (cv ad)) (rest := t.map (cv ad)) ⟨hx, hb, hml, hown, hts⟩ hMet ⟨so_pay hts hfr hlo hco hin (hli (by omega)) hnm, hts _ hinst, hts _ hsel⟩ ⟨mPc_blind E ad w _, hrcv, so_pre h1 hK (Nat.le_trans hbase h5.1) hKY h5⟩ rfl (by rw [List.length_map]; rw [List.length_cons] at hlen; omega) h2.1 (by rw [List.map_append, List.map_reverse, List.map_cons, List.reverse_cons, List.append_assoc]; rfl) (lv_room (by rw [wsum_map]; exact hsum)) hd ⟨by rw [hrc]; omega, by rw [hrs]; omega⟩
theorem so_nest (C : Cx p l R s m args meth c E S cc mc ms) (V : MV l R E S.1 cc M) {pc n i : Nat} {L : AL} {r t : List Value} {w : AW} {b : Nat × Nat} {ci : CI} {Q1 : AO → AW → Prop} (hd : decode cc pc = .ok (.invokespecial n, 3)) (hG : M.2.2.1 n = some ci) (h0 : ci.1 = 101) (hlen : (Value.ref i :: r).length = ci.2.1) (hsum : wsum t ≤ 8) (hb1 : ci.2.2.1 ≤ b.1) (hb2 : ci.2.2.2.1 ≤ b.2) (hsp : ci.2.2.2.2 (.ref i :: r) w Q1)
    (k1 : ∀ v w1, Q1 (.inl v) w1 → Sm p l e R s m args below meth c E S mc ms w0 ad0 Q (pc + 3) L (v.toList ++ t) w1 (b.1 - ci.2.2.1, b.2 - ci.2.2.2.1)) (k2 : ∀ C w1, ¬ Q1 (.inr C) w1) : Sm p l e R s m args below meth c E S mc ms w0 ad0 Q pc L ((Value.ref i :: r).reverse ++ t) w b := by
  intro ad H locs ls cells slots h1 h2 h3 h4 h5 h6 h7 h8
  obtain ⟨hx, hb, hml, hown, hts, hK, -, hlocks, hbase, hrc, hrs, -, htab, hst, hKY⟩ := id C
  obtain ⟨y, bytes, maxL, ret, fr, lo, np, hM, hfr, hlo, hco, hin, hli, hnm, -, -, hsi, hne⟩ := (V.2.2.1 n ci hG).2.2.2.2.2.2 (by omega)
  obtain ⟨hyn, hinst, hret, hnn⟩ := hsi (Or.inr h0)
  subst hret
  have has : ∀ v ∈ (Value.ref i :: r), lvv w v := fun v hv => h4 v (List.mem_append_left _ (List.mem_reverse.mpr hv))
  have ht : ∀ v ∈ t, lvv w v := fun v hv => h4 v (List.mem_append_right _ hv)
  have hMet0 := hM (.ref i :: r) w Q1 hsp hst ad has
  have hMet : Met l y (.code y bytes maxL none :: TBL) { frames := fr, cells := ci.2.2.1, slots := ci.2.2.2.1, locals := lo } (mPc E ad w (.ref i :: r)) (mQc E ad w Q1) ci.2.2.1 ci.2.2.2.1 (fun q => E.2.2 ≤ q) := by
    intro p e a1 a2 a3 s m args below a4 a5 a6 a7
    obtain ⟨n, o, b1, b2, b3, b4⟩ := hMet0 p e a1 a2 a3 s m args below a4 a5 a6 a7
    refine ⟨n, o, b1, b2, b3, ?_⟩
    rcases b4 with h | ⟨q, -, Ec, ce, L1, ⟨w1, ad1, hq, -⟩, -⟩
    · exact h
    · exact absurd hq (k2 _ _)
  have hcn := va_cnB (R := R) (mc := ci.2.2.1) (ms := ci.2.2.2.1) (ws := .code y bytes maxL none :: TBL) (ws' := TBL) (rm := { frames := fr, cells := ci.2.2.1, slots := ci.2.2.2.1, locals := lo }) np hts (fun w h => by
    rcases List.mem_cons.mp h with rfl | h
    · exact ⟨hco, TBL_good hco⟩
    · exact ⟨h, TBL_good h⟩) rfl rfl rfl (hKY.2.2.1 _ (hne h0)) (hts _ hin) hnm ⟨hfr, hlo⟩
  have hrun := va_runIN (Ts := TBL) (b := ad.1 i) (As := r.map (cv ad)) (rest := t.map (cv ad)) (p := p) (l := l) (e := e) (R := R) (below := below) (meth := meth) (locs := locs) (cells := cells) (slots := slots) (g := F0 m pc ls (((Value.ref i :: r).reverse ++ t).map (cv ad))) (H := H) ⟨hx, hb, hml, hown, hts⟩ hMet ⟨hcn, hyn, hts _ hinst⟩ ⟨mPc_blind E ad w _, so_pre h1 hK (Nat.le_trans hbase h5.1) hKY h5⟩ rfl (by rw [List.length_map]; rw [List.length_cons] at hlen; omega) h2.1 (by rw [List.map_append, List.map_reverse, List.map_cons, List.reverse_cons, List.append_assoc]; rfl) (lv_room (by rw [wsum_map]; exact hsum)) hd ⟨by rw [hrc]; omega, by rw [hrs]; omega⟩
  refine so_run (t := t) (kc := ci.2.2.1) (ks := ci.2.2.2.1) (b := b) (Q1 := Q1) (av := ((Value.ref i :: r).map (cv ad)).toArray) C ?_ k1 (fun C w1 h => absurd h (k2 C w1)) h1 h2 h3 ht h5 h6 h7 h8 hb1 hb2
  intro T hT X
  exact Or.inl (hrun T hT X)
theorem so_throw (C : Cx p l R s m args meth c E S cc mc ms) (V : MV l R E S.1 cc M) {pc n k4 ic is : Nat} {cls tx : String} {L : AL} {t : List Value} {w : AW} {b : Nat × Nat} (hS : S.1 = RX11) (hd : decode cc pc = .ok (.new n, 3)) (hq : (n, ic, cls) ∈ excs) (hm : (is, tx) ∈ msgs) (d3 : decode cc (pc + 3) = .ok (.dup, 1)) (d4 : (decode cc (pc + 4) = .ok (.ldc is, 2) ∧ k4 = 6) ∨ (decode cc (pc + 4) = .ok (.ldc_w is, 3) ∧ k4 = 7)) (d6 : decode cc (pc + k4) = .ok (.invokespecial ic, 3)) (d9 : decode cc (pc + k4 + 3) = .ok (.athrow, 1)) (hroom : 6 ≤ R.frames ∧ 90 ≤ R.locals) (hsum : wsum t ≤ 8) (hb1 : 1 ≤ b.1) (hb2 : 6 ≤ b.2) (k : Q (.inr cls) w) : Sm p l e R s m args below meth c E S mc ms w0 ad0 Q pc L t w b := by
  intro ad H locs ls cells slots h1 h2 h3 h4 h5 h6 h7 h8
  obtain ⟨hx, hb, hml, hown, hts, hK, -, hlocks, hbase, hrc, hrs, -, htab, hst, hKY⟩ := id C
  obtain ⟨ix, bytes, ⟨b0, b1, b2, b5⟩, x1, x2, x3, x4, x5, x6⟩ := xw_all _ hq
  dsimp only at x1 x2 x3 x4 x5 x6
  obtain ⟨sa, hsa⟩ := hKY.2.2.2.2.2.2.2.2.2.2.2.1 _ hm
  rw [hS] at hown
  refine th_throw (Y := "java/lang/RuntimeException") (names := ["java/lang/Exception"]) (k4 := k4) (A := fun q => E.2.2 ≤ q) hx hb hst b0 b1 b2 b5 hown x1 (by decide +kernel) (by decide +kernel) (hts _ x2) (hts _ x3) hsa (vx_hat (fun w hw => hts w (x5 w hw)) (fun w hw => x6 w hw) (fun w hw => ng_use (List.mem_filter.mp hw).2 (hKY.2.2.1 w hw))) x4 hKY.2.2.2.2.2.2.2.2.2.2.1.1 hKY.2.2.2.2.2.2.2.2.2.2.1.2 h5 (h2.1.trans hml.symm) hd d3 d4 d6 d9 (fun x hx => (htab x hx).elim) (by show 1 + 1 + 3 < _; omega) (by rw [wsum_map]; show _ + (13 * (1 + 1 + 1) + 43) ≤ _; omega) (by rw [hrc]; omega) (by rw [hrs]; omega) hlocks (fun tt hal hsz hold => ?_) h5.2.2 (by omega) (by omega)
  have h5t : va_F (fun q => E.2.2 ≤ q) s tt := ⟨Nat.le_trans h5.1 hsz, fun q hq hA => by rw [hold q (Nat.lt_of_lt_of_le hq h5.1)]; exact h5.2.1 q hq hA⟩
  have hl : ∀ i, wT w i ≠ 0 → wT w i ≠ 50 → ad.1 i < H.size := fun i hi h50 => (h1.1 i hi h50).1
  refine ⟨w, ad, k, ?_, h8, h5t⟩
  obtain ⟨g1, g2, g3, g4, g5, g6, g7, g8⟩ := h1
  refine ⟨fun i hi h50 => ⟨Nat.lt_of_lt_of_le (hl i hi h50) hsz, (g1 i hi h50).2⟩, g2, fun i => ?_, g4, g5, g6, g7, g8⟩
  by_cases hdd : wT w i = 0
  · exact cOK.dead hdd
  · exact (g3 i).congr rfl rfl (fun _ => rfl) (fun _ => rfl) (fun _ _ _ => rfl) rfl (fun _ => rfl) (fun _ => rfl) (fun _ => rfl) (fun _ _ _ => rfl) rfl (fun _ _ => rfl) (fun h50 => hold _ (hl i hdd h50)) (fun _ => ⟨rfl, fun _ g => ⟨Nat.lt_of_lt_of_le g hsz, hold _ g⟩⟩)
end SEM4
