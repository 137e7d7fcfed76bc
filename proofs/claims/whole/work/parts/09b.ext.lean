section SEM4B
variable {p : Program} {l : Launch} {e : Env} {R : Room} {s : State} {m : MethodId} {args : Array Value} {below : List Frame} {meth : Method} {c : Code}
variable {E : AE} {S : MS} {M : MT} {cc : ByteArray} {mc ms : Nat} {w0 : AW} {ad0 : AM} {Q : AO → AW → Prop}
theorem cpy_map (f g : Nat → Option Nat) (h : Nat → Nat) (sp dp n j : Nat) : va_cpy (fun q => (f q).map h) (fun q => (g q).map h) sp dp n j = (va_cpy f g sp dp n j).map h := by
  unfold va_cpy
  split <;> rfl
theorem so_copy (C : Cx p l R s m args meth c E S cc mc ms) (V : MV l R E S.1 cc M) {pc n si di : Nat} {x y z : Int32} {L : AL} {t : List Value} {w : AW} {b : Nat × Nat} {ci : CI} (hd : decode cc pc = .ok (.invokestatic n, 3)) (hG : M.2.2.1 n = some ci) (h97 : ci.1 = 97) (hTs : wT w si = 23) (hTd : wT w di = 23) (g1 : ¬ x < 0) (g2 : ¬ y < 0) (g3 : ¬ z < 0) (g4 : x.toNatClampNeg + z.toNatClampNeg ≤ wN w si) (g5 : y.toNatClampNeg + z.toNatClampNeg ≤ wN w di) (hel : ∀ q j, wP w si q = some j → 1 ≤ wT w j ∧ wT w j ≤ 13) (hsum : wsum t ≤ 8) (k : Sm p l e R s m args below meth c E S mc ms w0 ad0 Q (pc + 3) L t (sQ w di (va_cpy (wP w si) (wP w di) x.toNatClampNeg y.toNatClampNeg z.toNatClampNeg)) b) : Sm p l e R s m args below meth c E S mc ms w0 ad0 Q pc L (.int z :: .int y :: .ref di :: .int x :: .ref si :: t) w b := by
  intro ad H locs ls cells slots h1 h2 h3 h4 h5 h6 h7 h8
  obtain ⟨hx, hb, hml, hown, hts, hK, -, hlocks, hbase, hrc, hrs, -, htab, hst, hKY⟩ := id C
  obtain ⟨r1, r2, r3⟩ := (V.2.2.1 n ci hG).2.2.1 h97
  have nn : ∀ z : Int32, ¬ z < 0 → z.toInt = (z.toNatClampNeg : Int) := by
    intro z hz
    have hz0 : (0 : Int) ≤ z.toInt := by
      have := Int32.not_lt.mp hz
      simpa using Int32.le_iff_toInt_le.mp this
    show z.toInt = ((z.toInt.toNat : Nat) : Int)
    omega
  have hne : wT w di ≠ 0 := by omega
  have hc0 := (h1.2.2.1 si).2.2.2.2.1 hTs
  have hc1 := (h1.2.2.1 di).2.2.2.2.1 hTd
  obtain ⟨kA, comp, q1, q2, q3, -⟩ := hKY.1.2
  obtain ⟨kE, hkE, -⟩ := Vm.findClass_spec q3
  intro T hT X
  obtain ⟨vm', X', step⟩ := X.arraycopy hx hown (hts _ r1) (hts _ ac_nat) (hts _ ac_st) (hts _ ac_ini) (src := ad.1 si) (dst := ad.1 di) (srcPos := x) (destPos := y) (n := z) (by rw [hT]; exact hc0) (by rw [hT]; exact hc1)
    (fun _ h => by cases h) (fun _ h => by cases h) (fun h => by cases h) (fun h => by cases h) q1 q1 q2 q2 rfl g1 g2 g3
    (by rw [nn x g1, nn z g3, arrV_size]; omega)
    (by rw [nn y g2, nn z g3, arrV_size]; omega)
    (fun vm₁ hal i hi => by
      have e1 : (arrV (E.1.1 50) (wN w si) (fun j => va_rf ((wP w si j).map ad.1))).slots.getD (x.toNatClampNeg + i) .null = va_rf ((wP w si (x.toNatClampNeg + i)).map ad.1) := by
        rw [Array.getD_eq_getD_getElem?, arrV_read _ _ (by omega)]
        rfl
      rw [e1]
      cases hy : wP w si (x.toNatClampNeg + i) with
      | none => exact ⟨rfl, trivial⟩
      | some yj =>
        obtain ⟨a1, a2⟩ := hel _ _ hy
        obtain ⟨cellV, v1, v2, ⟨kC, hkC⟩, hasg⟩ := any_obj hKY hK h1 a1 a2
        obtain ⟨kC', hkC', -⟩ := hal.2.2 _ _ hkC
        obtain ⟨kE', hkE', -⟩ := hal.2.2 _ _ hkE
        refine ⟨rfl, cellV, (show T.heap[ad.1 yj]? = some cellV by rw [hT]; exact v1), (fun q h => by rw [h] at v2; cases v2), ⟨kC', hkC'⟩, ?_, ?_⟩
        · exact ⟨kE', hkE'⟩
        · show vm₁.assignable _ _ = true
          rw [hal.assignable]
          exact hasg _ q3)
    (g := F0 m pc ls (.int z :: .int y :: .ref (ad.1 di) :: .int x :: .ref (ad.1 si) :: t.map (cv ad))) rfl (h2.1.trans hml.symm) (rest := t.map (cv ad)) rfl (by rw [hb]; exact hd) r2 (by show 2 * 0 + _ + _ ≤ _; rw [wsum_map]; omega)
  have e1 : copied (arrV (E.1.1 50) (wN w si) (fun j => va_rf ((wP w si j).map ad.1))) (arrV (E.1.1 50) (wN w di) (fun j => va_rf ((wP w di j).map ad.1))) x y z = arrV (E.1.1 50) (wN w di) (fun j => va_rf (((va_cpy (wP w si) (wP w di) x.toNatClampNeg y.toNatClampNeg z.toNatClampNeg) j).map ad.1)) := by
    have h9 := va_copied (fun z => va_rf z) (E.1.1 50) (E.1.1 50) (fun j => (wP w si j).map ad.1) (fun j => (wP w di j).map ad.1) (n1 := wN w di) (sp := x.toNatClampNeg) (dp := y.toNatClampNeg) (n := z.toNatClampNeg) g4
    refine h9.trans ?_
    congr 1
    funext j
    rw [cpy_map]
  rw [e1] at X' step
  have hl : ad.1 di < H.size := (h1.1 di hne (by omega)).1
  generalize hcell : arrV (E.1.1 50) (wN w di) (fun j => va_rf (((va_cpy (wP w si) (wP w di) x.toNatClampNeg y.toNatClampNeg z.toNatClampNeg) j).map ad.1)) = cell9 at X' step
  have hheap : ((T.setVm vm').setCell (ad.1 di) cell9).heap = H.setIfInBounds (ad.1 di) cell9 := by rw [← hT]; rfl
  have oq : ∀ q : Nat, q ≠ ad.1 di → (H.setIfInBounds (ad.1 di) cell9)[q]? = H[q]? := fun q hq => by simp [Array.getElem?_setIfInBounds, Ne.symm hq]
  have hC1 : Conc E ad (sQ w di (va_cpy (wP w si) (wP w di) x.toNatClampNeg y.toNatClampNeg z.toNatClampNeg)) (H.setIfInBounds (ad.1 di) cell9) := by
    refine h1.put hne (by omega) (by simp) oq rfl (fun _ _ _ => rfl) (fun _ _ _ => rfl) rfl (fun _ _ => rfl) (fun _ _ => rfl) (fun j hj => by funext q; rw [wP_sQ, if_neg hj]) rfl (cOK.a23 (show wT w di = 23 from hTd) ?_) (fun k j hj => h1.2.2.2.1 k di j hne hj) (fun k j hj => ?_)
    · have eP : (fun j => va_rf ((wP (sQ w di (va_cpy (wP w si) (wP w di) x.toNatClampNeg y.toNatClampNeg z.toNatClampNeg)) di j).map ad.1)) = (fun j => va_rf (((va_cpy (wP w si) (wP w di) x.toNatClampNeg y.toNatClampNeg z.toNatClampNeg) j).map ad.1)) := by
        funext j
        rw [wP_sQ, if_pos rfl]
      rw [eP]
      show (H.setIfInBounds (ad.1 di) cell9)[ad.1 di]? = some (arrV (E.1.1 50) (wN w di) _)
      rw [hcell]
      simp [Array.getElem?_setIfInBounds, hl]
    · rw [wP_sQ, if_pos rfl] at hj
      unfold va_cpy at hj
      split at hj
      · exact h1.2.2.2.2.1 si _ j (by omega) hj
      · exact h1.2.2.2.2.1 di _ j (by omega) hj
  obtain ⟨t2, a1, b1⟩ := k ad (H.setIfInBounds (ad.1 di) cell9) _ ls cells slots hC1 h2 (fun j u hj => wT_of_same rfl (h3 j u hj)) (fun u hu => wT_of_same rfl (lt1 (lt1 (lt1 (lt1 (lt1 h4)))) u hu)) ⟨by simp; exact h5.1, fun q hq hA => by
      rw [oq q (fun e9 => hA (by rw [e9]; exact (h1.1 di hne (by omega)).2 (by omega)))]
      exact h5.2.1 q hq hA, fun q hq => by
      rcases List.mem_append.mp hq with h | h
      · exact h5.2.2 q h
      · obtain ⟨z9, -, hz⟩ := List.mem_map.mp h
        rw [← hz]
        exact (h1.1 di hne (by omega)).2 (by omega)⟩ h6 h7 h8 _ hheap X'
  exact ⟨t2, step t2 a1, b1⟩
theorem so_mmax (C : Cx p l R s m args meth c E S cc mc ms) (V : MV l R E S.1 cc M) {pc n : Nat} {x y : Int32} {L : AL} {t : List Value} {w : AW} {b : Nat × Nat} {ci : CI} (hd : decode cc pc = .ok (.invokestatic n, 3)) (hG : M.2.2.1 n = some ci) (hk : ci.1 = 94) (hsum : wsum t ≤ 8) (k : Sm p l e R s m args below meth c E S mc ms w0 ad0 Q (pc + 3) L (.int (if x < y then y else x) :: t) w b) : Sm p l e R s m args below meth c E S mc ms w0 ad0 Q pc L (.int y :: .int x :: t) w b := by
  intro ad H locs ls cells slots h1 h2 h3 h4 h5 h6 h7 h8
  obtain ⟨hx, hb, hml, hown, hts, hK, -, hlocks, hbase, hrc, hrs, -, htab, hst, hKY⟩ := id C
  obtain ⟨r1, r2, r3⟩ := (V.2.2.1 n ci hG).2.2.2.1 hk
  exact va_mmax hx hb (h2.1.trans hml.symm).symm hown (hts _ r1) (hts _ mw_max.1) (hts _ mw_ini) (hts _ mw_max.2) r2 (by rw [wsum_map]; omega) (by rw [hrc]; omega) (by rw [hrs]; omega) hd (k ad H locs ls cells slots h1 h2 h3 (lcv (lvv_int _ _) (lt1 (lt1 h4))) h5 h6 h7 h8)
theorem so_mmin (C : Cx p l R s m args meth c E S cc mc ms) (V : MV l R E S.1 cc M) {pc n : Nat} {x y : Int32} {L : AL} {t : List Value} {w : AW} {b : Nat × Nat} {ci : CI} (hd : decode cc pc = .ok (.invokestatic n, 3)) (hG : M.2.2.1 n = some ci) (hk : ci.1 = 95) (hsum : wsum t ≤ 8) (k : Sm p l e R s m args below meth c E S mc ms w0 ad0 Q (pc + 3) L (.int (if y < x then y else x) :: t) w b) : Sm p l e R s m args below meth c E S mc ms w0 ad0 Q pc L (.int y :: .int x :: t) w b := by
  intro ad H locs ls cells slots h1 h2 h3 h4 h5 h6 h7 h8
  obtain ⟨hx, hb, hml, hown, hts, hK, -, hlocks, hbase, hrc, hrs, -, htab, hst, hKY⟩ := id C
  obtain ⟨r1, r2, r3⟩ := (V.2.2.1 n ci hG).2.2.2.2.1 hk
  exact va_mmin hx hb (h2.1.trans hml.symm).symm hown (hts _ r1) (hts _ mw_min.1) (hts _ mw_ini) (hts _ mw_min.2) r2 (by rw [wsum_map]; omega) (by rw [hrc]; omega) (by rw [hrs]; omega) hd (k ad H locs ls cells slots h1 h2 h3 (lcv (lvv_int _ _) (lt1 (lt1 h4))) h5 h6 h7 h8)
theorem so_mabs (C : Cx p l R s m args meth c E S cc mc ms) (V : MV l R E S.1 cc M) {pc n : Nat} {x : Int32} {L : AL} {t : List Value} {w : AW} {b : Nat × Nat} {ci : CI} (hd : decode cc pc = .ok (.invokestatic n, 3)) (hG : M.2.2.1 n = some ci) (hk : ci.1 = 96) (hsum : wsum t ≤ 8) (k : Sm p l e R s m args below meth c E S mc ms w0 ad0 Q (pc + 3) L (.int (if 0 ≤ x then x else 0 - x) :: t) w b) : Sm p l e R s m args below meth c E S mc ms w0 ad0 Q pc L (.int x :: t) w b := by
  intro ad H locs ls cells slots h1 h2 h3 h4 h5 h6 h7 h8
  obtain ⟨hx, hb, hml, hown, hts, hK, -, hlocks, hbase, hrc, hrs, -, htab, hst, hKY⟩ := id C
  obtain ⟨r1, r2, r3⟩ := (V.2.2.1 n ci hG).2.2.2.2.2.1 hk
  exact va_mabs hx hb (h2.1.trans hml.symm).symm hown (hts _ r1) (hts _ mw_abs.1) (hts _ mw_ini) (hts _ mw_abs.2) r2 (by rw [wsum_map]; omega) (by rw [hrc]; omega) (by rw [hrs]; omega) hd (k ad H locs ls cells slots h1 h2 h3 (lcv (lvv_int _ _) (lt1 h4)) h5 h6 h7 h8)
theorem wpE_ok (C : Cx p l R s m args meth c E S cc mc ms) (V : MV l R E S.1 cc M) {K : XP} (hK : ∀ pc L st w b, K pc L st w b → Sm p l e R s m args below meth c E S mc ms w0 ad0 Q pc L st w b) {i : Instr} {len pc : Nat} {L : AL} {st : List Value} {w : AW} {b : Nat × Nat} (hP : M.1 pc = some (i, len)) (hge : 10000 ≤ len) (h : wpE S M Q i (len - 10000) K pc L st w b) : Sm p l e R s m args below meth c E S mc ms w0 ad0 Q pc L st w b := by
  have hd := V.1 pc i len hP
  obtain ⟨k9, hk9⟩ : ∃ k9, k9 = len - 10000 := ⟨_, rfl⟩
  rw [← hk9] at h
  have hd9 : k9 < 10000 → decode cc pc = .ok (i, k9) := fun hlt => by
    have e9 : len % 10000 = k9 := by omega
    rw [e9] at hd; exact hd
  cases i with
  | getstatic n =>
    obtain ⟨rfl, k, hf, h⟩ := h
    have hd := hd9 (by decide)
    rcases h with ⟨rfl, hk⟩ | ⟨rfl, hk0, hT, hk⟩ | ⟨h99, h19, hT, hk⟩
    · exact so_getstaticC C V hd hf (hK _ _ _ _ _ hk)
    · exact so_getstaticS C V hd hf (hK _ _ _ _ _ hk0) hT (hK _ _ _ _ _ hk)
    · exact so_getstatic C V hd hf h99 h19 hT (hK _ _ _ _ _ hk)
  | getfield n =>
    obtain ⟨rfl, k, i, t, hf, rfl, hT, h⟩ := h
    have hd := hd9 (by decide)
    rcases h with ⟨rfl, a1, a2, hk⟩ | ⟨a0, a1, a2, hT2, hk⟩
    · exact so_getKc C V hd hf hT a1 a2 (hK _ _ _ _ _ hk)
    · exact so_getK C V hd hf hT a0 a1 a2 hT2 (hK _ _ _ _ _ hk)
  | arraylength =>
    obtain ⟨rfl, i, t, n, rfl, hA, hk⟩ := h
    exact so_alen C (hd9 (by decide)) hA (hK _ _ _ _ _ hk)
  | iaload =>
    obtain ⟨rfl, x, i, t, rfl, hT, hin, hk⟩ := h
    exact so_iald51 C (hd9 (by decide)) hT hin (hK _ _ _ _ _ hk)
  | baload =>
    obtain ⟨rfl, x, i, t, rfl, hT, a1, a2, hin, hk⟩ := h
    exact so_baldK C (hd9 (by decide)) hT a1 a2 hin (hK _ _ _ _ _ hk)
  | aaload =>
    obtain ⟨rfl, x, i, t, rfl, h⟩ := h
    rcases h with ⟨hT, hin, hk⟩ | ⟨hT, rfl, hin, hT2, hk⟩
    · exact so_aald C (hd9 (by decide)) hT hin (hK _ _ _ _ _ hk)
    · exact so_aaldK C (hd9 (by decide)) hT hin hT2 (hK _ _ _ _ _ hk)
  | aastore =>
    obtain ⟨rfl, r, x, i, t, rfl, hT, hin, hk⟩ := h
    exact so_aast C (hd9 (by decide)) hT hin (hK _ _ _ _ _ hk)
  | anewarray n =>
    obtain ⟨rfl, x, t, c0, hc, h50, rfl, hn, hb8, hb1, hb2, X, hX, hk⟩ := h
    have hd := hd9 (by decide)
    rcases h50 with rfl | rfl
    · exact so_anewO C hd ((V.2.2.2.2.2.1 _ _ hc).2.1 rfl) hn hb8 hb1 hb2 hX (hK _ _ _ _ _ hk)
    · exact so_anewL C hd ((V.2.2.2.2.2.1 _ _ hc).2.2.1 rfl) hn hb8 hb1 hb2 hX (hK _ _ _ _ _ hk)
  | checkcast n =>
    obtain ⟨rfl, c0, i, t, hc, hc13, rfl, hT, hk⟩ := h
    exact so_cast C (hd9 (by decide)) ((V.2.2.2.2.2.1 _ _ hc).1 hc13).1 hc13 hT (hK _ _ _ _ _ hk)
  | ldc n =>
    obtain ⟨rfl, hc, hT, hk⟩ := h
    exact so_mirror C (hd9 (by decide)) ((V.2.2.2.2.2.1 _ _ hc).2.2.2 rfl) hT (hK _ _ _ _ _ hk)
  | invokevirtual n =>
    rcases h with ⟨rfl, ci, i, t, hG, h98, rfl, hT, hT18, hsum, hk⟩ | ⟨rfl, ci, as, t, hG, ⟨i, r, rfl, hR⟩, hlen, rfl, hsum, hb1, hb2, hsp⟩
    · exact so_getClass C V (hd9 (by decide)) hG h98 hT hT18 hsum (hK _ _ _ _ _ hk)
    · exact so_rcv C V (hd9 (by decide)) hG hR hlen hsum hb1 hb2 hsp (fun v w1 h => hK _ _ _ _ _ h) (fun _ _ h => h)
  | invokestatic n =>
    rcases h with ⟨rfl, ci, x, y, z, si, di, t, hG, h97, rfl, hTs, hTd, g1, g2, g3, g4, g5, hel, hsum, hk⟩ | ⟨rfl, ci, x, y, t, hG, h9, rfl, hsum, hk⟩ | ⟨rfl, ci, x, y, t, hG, h9, rfl, hsum, hk⟩ | ⟨rfl, ci, x, t, hG, h9, rfl, hsum, hk⟩
    · exact so_copy C V (hd9 (by decide)) hG h97 hTs hTd g1 g2 g3 g4 g5 hel hsum (hK _ _ _ _ _ hk)
    · exact so_mmax C V (hd9 (by decide)) hG h9 hsum (hK _ _ _ _ _ hk)
    · exact so_mmin C V (hd9 (by decide)) hG h9 hsum (hK _ _ _ _ _ hk)
    · exact so_mabs C V (hd9 (by decide)) hG h9 hsum (hK _ _ _ _ _ hk)
  | invokespecial n =>
    obtain ⟨rfl, ci, as, t, hG, h0, ⟨i, r, rfl⟩, hlen, rfl, hsum, hb1, hb2, hsp⟩ := h
    exact so_nest C V (hd9 (by decide)) hG h0 hlen hsum hb1 hb2 hsp (fun v w1 h => hK _ _ _ _ _ h) (fun _ _ h => h)
  | new n =>
    obtain ⟨rfl, hS, ic, cls, is, tx, hq, hm, d3, d4, hsum, hb1, hb2, hQ⟩ := h
    have hroom := V.2.2.2.2.2.2 pc n (by rw [hP, show len = 10003 by omega])
    have D : ∀ {p9 : Nat} {j : Instr} {k9 : Nat}, M.1 p9 = some (j, k9) → k9 < 10000 → decode cc p9 = .ok (j, k9) := fun h1 h2 => by
      have := V.1 _ _ _ h1
      rw [Nat.mod_eq_of_lt h2] at this; exact this
    rcases d4 with ⟨e1, e2, e3⟩ | ⟨e1, e2, e3⟩
    · exact so_throw (k4 := 6) C V hS (hd9 (by decide)) hq hm (D d3 (by decide)) (Or.inl ⟨D e1 (by decide), rfl⟩) (D e2 (by decide)) (D e3 (by decide)) hroom hsum hb1 hb2 hQ
    · exact so_throw (k4 := 7) C V hS (hd9 (by decide)) hq hm (D d3 (by decide)) (Or.inr ⟨D e1 (by decide), rfl⟩) (D e2 (by decide)) (D e3 (by decide)) hroom hsum hb1 hb2 hQ
  | _ => exact False.elim h
end SEM4B
