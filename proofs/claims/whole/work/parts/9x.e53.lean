def hdL : List (Nat × Instr × Nat) := [(0, .new 8, 3), (3, .dup, 1), (4, .invokespecial 100, 3), (7, .astore_n 1, 1), (8, .new 101, 3), (11, .dup, 1), (12, .invokespecial 103, 3), (15, .astore_n 2, 1), (16, .iconst 1, 1), (17, .newarray .long, 2), (19, .astore_n 3, 1), (20, .iconst 0, 1), (21, .istore 4, 2), (23, .iload 4, 2), (25, .aload_n 0, 1), (26, .arraylength, 1), (27, .bipush 6, 2), (29, .isub, 1), (30, .if_icmp .gt 2217, 3), (33, .aload_n 0, 1), (34, .iload 4, 2), (36, .iaload, 1), (37, .bipush 31, 2), (39, .iand, 1), (40, .tableswitch 2201 0 30 #[140, 244, 312, 392, 460, 564, 644, 657, 737, 829, 897, 970, 1050, 1087, 1167, 1235, 1303, 1383, 1439, 1507, 1575, 1631, 1699, 1755, 1811, 1824, 1892, 1960, 2040, 2120, 2176], 140), (2241, .iinc 4 6, 3), (2244, .goto (-2221), 3), (2247, .iconst 1, 1), (2248, .ireturn, 1)]
theorem hdOK : ∀ q ∈ hdL, decode cL_law q.1 = .ok (q.2.1, q.2.2) := by decide +kernel
theorem hd_0 : decode cL_law 0 = .ok (.new 8, 3) := hdOK (0, .new 8, 3) (List.mem_of_getElem? (i := 0) rfl)
theorem hd_3 : decode cL_law 3 = .ok (.dup, 1) := hdOK (3, .dup, 1) (List.mem_of_getElem? (i := 1) rfl)
theorem hd_4 : decode cL_law 4 = .ok (.invokespecial 100, 3) := hdOK (4, .invokespecial 100, 3) (List.mem_of_getElem? (i := 2) rfl)
theorem hd_7 : decode cL_law 7 = .ok (.astore_n 1, 1) := hdOK (7, .astore_n 1, 1) (List.mem_of_getElem? (i := 3) rfl)
theorem hd_8 : decode cL_law 8 = .ok (.new 101, 3) := hdOK (8, .new 101, 3) (List.mem_of_getElem? (i := 4) rfl)
theorem hd_11 : decode cL_law 11 = .ok (.dup, 1) := hdOK (11, .dup, 1) (List.mem_of_getElem? (i := 5) rfl)
theorem hd_12 : decode cL_law 12 = .ok (.invokespecial 103, 3) := hdOK (12, .invokespecial 103, 3) (List.mem_of_getElem? (i := 6) rfl)
theorem hd_15 : decode cL_law 15 = .ok (.astore_n 2, 1) := hdOK (15, .astore_n 2, 1) (List.mem_of_getElem? (i := 7) rfl)
theorem hd_16 : decode cL_law 16 = .ok (.iconst 1, 1) := hdOK (16, .iconst 1, 1) (List.mem_of_getElem? (i := 8) rfl)
theorem hd_17 : decode cL_law 17 = .ok (.newarray .long, 2) := hdOK (17, .newarray .long, 2) (List.mem_of_getElem? (i := 9) rfl)
theorem hd_19 : decode cL_law 19 = .ok (.astore_n 3, 1) := hdOK (19, .astore_n 3, 1) (List.mem_of_getElem? (i := 10) rfl)
theorem hd_20 : decode cL_law 20 = .ok (.iconst 0, 1) := hdOK (20, .iconst 0, 1) (List.mem_of_getElem? (i := 11) rfl)
theorem hd_21 : decode cL_law 21 = .ok (.istore 4, 2) := hdOK (21, .istore 4, 2) (List.mem_of_getElem? (i := 12) rfl)
theorem hd_23 : decode cL_law 23 = .ok (.iload 4, 2) := hdOK (23, .iload 4, 2) (List.mem_of_getElem? (i := 13) rfl)
theorem hd_25 : decode cL_law 25 = .ok (.aload_n 0, 1) := hdOK (25, .aload_n 0, 1) (List.mem_of_getElem? (i := 14) rfl)
theorem hd_26 : decode cL_law 26 = .ok (.arraylength, 1) := hdOK (26, .arraylength, 1) (List.mem_of_getElem? (i := 15) rfl)
theorem hd_27 : decode cL_law 27 = .ok (.bipush 6, 2) := hdOK (27, .bipush 6, 2) (List.mem_of_getElem? (i := 16) rfl)
theorem hd_29 : decode cL_law 29 = .ok (.isub, 1) := hdOK (29, .isub, 1) (List.mem_of_getElem? (i := 17) rfl)
theorem hd_30 : decode cL_law 30 = .ok (.if_icmp .gt 2217, 3) := hdOK (30, .if_icmp .gt 2217, 3) (List.mem_of_getElem? (i := 18) rfl)
theorem hd_33 : decode cL_law 33 = .ok (.aload_n 0, 1) := hdOK (33, .aload_n 0, 1) (List.mem_of_getElem? (i := 19) rfl)
theorem hd_34 : decode cL_law 34 = .ok (.iload 4, 2) := hdOK (34, .iload 4, 2) (List.mem_of_getElem? (i := 20) rfl)
theorem hd_36 : decode cL_law 36 = .ok (.iaload, 1) := hdOK (36, .iaload, 1) (List.mem_of_getElem? (i := 21) rfl)
theorem hd_37 : decode cL_law 37 = .ok (.bipush 31, 2) := hdOK (37, .bipush 31, 2) (List.mem_of_getElem? (i := 22) rfl)
theorem hd_39 : decode cL_law 39 = .ok (.iand, 1) := hdOK (39, .iand, 1) (List.mem_of_getElem? (i := 23) rfl)
theorem hd_40 : decode cL_law 40 = .ok (.tableswitch 2201 0 30 #[140, 244, 312, 392, 460, 564, 644, 657, 737, 829, 897, 970, 1050, 1087, 1167, 1235, 1303, 1383, 1439, 1507, 1575, 1631, 1699, 1755, 1811, 1824, 1892, 1960, 2040, 2120, 2176], 140) := hdOK (40, .tableswitch 2201 0 30 #[140, 244, 312, 392, 460, 564, 644, 657, 737, 829, 897, 970, 1050, 1087, 1167, 1235, 1303, 1383, 1439, 1507, 1575, 1631, 1699, 1755, 1811, 1824, 1892, 1960, 2040, 2120, 2176], 140) (List.mem_of_getElem? (i := 24) rfl)
theorem hd_2241 : decode cL_law 2241 = .ok (.iinc 4 6, 3) := hdOK (2241, .iinc 4 6, 3) (List.mem_of_getElem? (i := 25) rfl)
theorem hd_2244 : decode cL_law 2244 = .ok (.goto (-2221), 3) := hdOK (2244, .goto (-2221), 3) (List.mem_of_getElem? (i := 26) rfl)
theorem hd_2247 : decode cL_law 2247 = .ok (.iconst 1, 1) := hdOK (2247, .iconst 1, 1) (List.mem_of_getElem? (i := 27) rfl)
theorem hd_2248 : decode cL_law 2248 = .ok (.ireturn, 1) := hdOK (2248, .ireturn, 1) (List.mem_of_getElem? (i := 28) rfl)
section LAWE
variable {p : Program} {l : Launch} {e : Env} {s : State} {m : MethodId} {args : Array Value} {below : List Frame} {meth : Method} {c : Code}
variable {E : AE} {w0 : AW} {ad0 : AM} {N : Nat} {xs : Nat → Int32}
theorem cmp6 {N a : Nat} (hN : N ≤ 3072) (ha : a ≤ 3072) : (nI N - (Int8.ofInt 6).toInt32 < nI a) = (N < a + 6) := by
  have e1 : (nI N - (Int8.ofInt 6).toInt32).toInt = (N : Int) - 6 := by
    rw [Int32.toInt_sub, nI_toInt (by omega), show ((Int8.ofInt 6).toInt32).toInt = 6 from by decide]
    unfold Int.bmod
    dsimp only
    split <;> omega
  rw [Int32.lt_iff_toInt_lt, e1, nI_toInt (by omega)]
  exact propext ⟨fun h => by omega, fun h => by omega⟩
theorem and31 (v : Int32) : ∃ i, i < 32 ∧ v &&& (Int8.ofInt 31).toInt32 = nI i := by
  have e0 : (Int8.ofInt 31).toInt32 = (31 : Int32) := by decide
  rw [e0]
  refine ⟨(v.toBitVec &&& 31#32).toNat, ?_, ?_⟩
  · rw [BitVec.toNat_and]
    exact Nat.lt_of_le_of_lt Nat.and_le_right (by decide)
  · apply Int32.toBitVec_inj.mp
    rw [Int32.toBitVec_and]
    show v.toBitVec &&& 31#32 = (Int32.ofNat (v.toBitVec &&& 31#32).toNat).toBitVec
    rw [Int32.toBitVec_ofNat']
    simp
theorem x_head (C : Cx p l room_1 s m args meth c E (RL, 7, some FieldType.boolean, false) cL_law 601024 7293034) (hX : ScX E s w0 ad0 N xs) {j : Nat} {L : AL} {w : AW} {b : Nat × Nat} (hL : HL L j) (hj : 6 * j ≤ N) (k1 : N < 6 * j + 6 → Sm p l e room_1 s m args below meth c E (RL, 7, some FieldType.boolean, false) 601024 7293034 w0 ad0 (fun ou _ => ou = .inl (some (.int 1))) 2247 L [] w b) (k2 : 6 * j + 6 ≤ N → Sm p l e room_1 s m args below meth c E (RL, 7, some FieldType.boolean, false) 601024 7293034 w0 ad0 (fun ou _ => ou = .inl (some (.int 1))) 33 L [] w b) : Sm p l e room_1 s m args below meth c E (RL, 7, some FieldType.boolean, false) 601024 7293034 w0 ad0 (fun ou _ => ou = .inl (some (.int 1))) 23 L [] w b := by
  have hNl : N ≤ 3072 := hX.2.2.2.2
  refine tx C hd_23 (by decide) ⟨rfl, _, hL.2.2.2.2, ?_⟩
  refine tx C hd_25 (by decide) ⟨rfl, some 224, hL.1, ?_⟩
  refine sx_alen C hX hd_26 ?_
  refine tx C hd_27 (by decide) ⟨rfl, ?_⟩
  refine tx C hd_29 (by decide) ⟨rfl, _, _, _, rfl, ?_⟩
  have e3 : (nI N - (Int8.ofInt 6).toInt32 < nI (6 * j)) = (N < 6 * j + 6) := cmp6 hNl (by omega)
  refine tx C hd_30 (by decide) ⟨rfl, 2247, _, _, [], by decide, rfl, fun h => k1 (e3.mp h), fun h => k2 (Nat.le_of_not_lt (fun z => h (e3.mpr z)))⟩
theorem x_ret (C : Cx p l room_1 s m args meth c E (RL, 7, some FieldType.boolean, false) cL_law 601024 7293034) (hX : ScX E s w0 ad0 N xs) {L : AL} {w : AW} {b : Nat × Nat} : Sm p l e room_1 s m args below meth c E (RL, 7, some FieldType.boolean, false) 601024 7293034 w0 ad0 (fun ou _ => ou = .inl (some (.int 1))) 2247 L [] w b := by
  refine tx C hd_2247 (by decide) ⟨rfl, ?_⟩
  exact tx C hd_2248 (by decide) ⟨rfl, 1, .boolean, rfl, rfl, by decide, rfl⟩
theorem x_next (C : Cx p l room_1 s m args meth c E (RL, 7, some FieldType.boolean, false) cL_law 601024 7293034) (hX : ScX E s w0 ad0 N xs) {j : Nat} {L : AL} {w : AW} {b : Nat × Nat} (hL : HL L j) (k : ∀ L', HL L' (j + 1) → Sm p l e room_1 s m args below meth c E (RL, 7, some FieldType.boolean, false) 601024 7293034 w0 ad0 (fun ou _ => ou = .inl (some (.int 1))) 23 L' [] w b) : Sm p l e room_1 s m args below meth c E (RL, 7, some FieldType.boolean, false) 601024 7293034 w0 ad0 (fun ou _ => ou = .inl (some (.int 1))) 2241 L [] w b := by
  refine tx C hd_2241 (by decide) ⟨rfl, _, hL.2.2.2.2, by decide, ?_⟩
  exact tx C hd_2244 (by decide) ⟨rfl, 23, by decide, k _ hL.s4⟩
theorem x_sw (C : Cx p l room_1 s m args meth c E (RL, 7, some FieldType.boolean, false) cL_law 601024 7293034) (hX : ScX E s w0 ad0 N xs) (hnc : ∀ w ∈ NCW, w.before args s = true) {j : Nat} {L : AL} {w : AW} {b : Nat × Nat} (hL : HL L j) (hR : Rel j w) (hj : 6 * j + 6 ≤ N) (hb1 : 100 ≤ b.1) (hb2 : 13286 ≤ b.2) (k : ∀ L' w' b', HL L' j → Rel (j + 1) w' → b.1 ≤ b'.1 + 100 → b.2 ≤ b'.2 + 13286 → Sm p l e room_1 s m args below meth c E (RL, 7, some FieldType.boolean, false) 601024 7293034 w0 ad0 (fun ou _ => ou = .inl (some (.int 1))) 2241 L' [] w' b') : Sm p l e room_1 s m args below meth c E (RL, 7, some FieldType.boolean, false) 601024 7293034 w0 ad0 (fun ou _ => ou = .inl (some (.int 1))) 33 L [] w b := by
  have hNl : N ≤ 3072 := hX.2.2.2.2
  refine tx C hd_33 (by decide) ⟨rfl, some 224, hL.1, ?_⟩
  refine tx C hd_34 (by decide) ⟨rfl, _, hL.2.2.2.2, ?_⟩
  refine sx_iald C hX hd_36 (by omega) ?_
  refine tx C hd_37 (by decide) ⟨rfl, ?_⟩
  refine tx C hd_39 (by decide) ⟨rfl, _, _, _, rfl, ?_⟩
  obtain ⟨i, hi, hx⟩ := and31 (xs (6 * j))
  rw [hx]
  have ht : (nI i).toInt = (i : Int) := nI_toInt (by omega)
  refine tx C hd_40 (by decide) ⟨nI i, [], rfl, fun _ => ⟨2241, by decide, k L w b hL hR.up (by omega) (by omega)⟩, fun _ h30 => ?_⟩
  rw [ht] at h30 ⊢
  have hi30 : i ≤ 30 := by omega
  have hdis : i = 0 ∨ i = 1 ∨ i = 2 ∨ i = 3 ∨ i = 4 ∨ i = 5 ∨ i = 6 ∨ i = 7 ∨ i = 8 ∨ i = 9 ∨ i = 10 ∨ i = 11 ∨ i = 12 ∨ i = 13 ∨ i = 14 ∨ i = 15 ∨ i = 16 ∨ i = 17 ∨ i = 18 ∨ i = 19 ∨ i = 20 ∨ i = 21 ∨ i = 22 ∨ i = 23 ∨ i = 24 ∨ i = 25 ∨ i = 26 ∨ i = 27 ∨ i = 28 ∨ i = 29 ∨ i = 30 := by omega
  rcases hdis with rfl | rfl | rfl | rfl | rfl | rfl | rfl | rfl | rfl | rfl | rfl | rfl | rfl | rfl | rfl | rfl | rfl | rfl | rfl | rfl | rfl | rfl | rfl | rfl | rfl | rfl | rfl | rfl | rfl | rfl | rfl
  · exact ⟨140, 180, by decide, by decide, cs_0 C hX hnc hL hR hj hb1 hb2 k⟩
  · exact ⟨244, 284, by decide, by decide, cs_1 C hX hnc hL hR hj hb1 hb2 k⟩
  · exact ⟨312, 352, by decide, by decide, cs_2 C hX hnc hL hR hj hb1 hb2 k⟩
  · exact ⟨392, 432, by decide, by decide, cs_3 C hX hnc hL hR hj hb1 hb2 k⟩
  · exact ⟨460, 500, by decide, by decide, cs_4 C hX hnc hL hR hj hb1 hb2 k⟩
  · exact ⟨564, 604, by decide, by decide, cs_5 C hX hnc hL hR hj hb1 hb2 k⟩
  · exact ⟨644, 684, by decide, by decide, cs_6 C hX hnc hL hR hj hb1 hb2 k⟩
  · exact ⟨657, 697, by decide, by decide, cs_7 C hX hnc hL hR hj hb1 hb2 k⟩
  · exact ⟨737, 777, by decide, by decide, cs_8 C hX hnc hL hR hj hb1 hb2 k⟩
  · exact ⟨829, 869, by decide, by decide, cs_9 C hX hnc hL hR hj hb1 hb2 k⟩
  · exact ⟨897, 937, by decide, by decide, cs_10 C hX hnc hL hR hj hb1 hb2 k⟩
  · exact ⟨970, 1010, by decide, by decide, cs_11 C hX hnc hL hR hj hb1 hb2 k⟩
  · exact ⟨1050, 1090, by decide, by decide, cs_12 C hX hnc hL hR hj hb1 hb2 k⟩
  · exact ⟨1087, 1127, by decide, by decide, cs_13 C hX hnc hL hR hj hb1 hb2 k⟩
  · exact ⟨1167, 1207, by decide, by decide, cs_14 C hX hnc hL hR hj hb1 hb2 k⟩
  · exact ⟨1235, 1275, by decide, by decide, cs_15 C hX hnc hL hR hj hb1 hb2 k⟩
  · exact ⟨1303, 1343, by decide, by decide, cs_16 C hX hnc hL hR hj hb1 hb2 k⟩
  · exact ⟨1383, 1423, by decide, by decide, cs_17 C hX hnc hL hR hj hb1 hb2 k⟩
  · exact ⟨1439, 1479, by decide, by decide, cs_18 C hX hnc hL hR hj hb1 hb2 k⟩
  · exact ⟨1507, 1547, by decide, by decide, cs_19 C hX hnc hL hR hj hb1 hb2 k⟩
  · exact ⟨1575, 1615, by decide, by decide, cs_20 C hX hnc hL hR hj hb1 hb2 k⟩
  · exact ⟨1631, 1671, by decide, by decide, cs_21 C hX hnc hL hR hj hb1 hb2 k⟩
  · exact ⟨1699, 1739, by decide, by decide, cs_22 C hX hnc hL hR hj hb1 hb2 k⟩
  · exact ⟨1755, 1795, by decide, by decide, cs_23 C hX hnc hL hR hj hb1 hb2 k⟩
  · exact ⟨1811, 1851, by decide, by decide, cs_24 C hX hnc hL hR hj hb1 hb2 k⟩
  · exact ⟨1824, 1864, by decide, by decide, cs_25 C hX hnc hL hR hj hb1 hb2 k⟩
  · exact ⟨1892, 1932, by decide, by decide, cs_26 C hX hnc hL hR hj hb1 hb2 k⟩
  · exact ⟨1960, 2000, by decide, by decide, cs_27 C hX hnc hL hR hj hb1 hb2 k⟩
  · exact ⟨2040, 2080, by decide, by decide, cs_28 C hX hnc hL hR hj hb1 hb2 k⟩
  · exact ⟨2120, 2160, by decide, by decide, cs_29 C hX hnc hL hR hj hb1 hb2 k⟩
  · exact ⟨2176, 2216, by decide, by decide, cs_30 C hX hnc hL hR hj hb1 hb2 k⟩
theorem lw_23 (C : Cx p l room_1 s m args meth c E (RL, 7, some FieldType.boolean, false) cL_law 601024 7293034) (hX : ScX E s w0 ad0 N xs) (hnc : ∀ w ∈ NCW, w.before args s = true) : ∀ (d j : Nat) (L : AL) (w : AW) (b : Nat × Nat), HL L j → Rel j w → 6 * (j + d) ≤ N → N < 6 * (j + d) + 6 → 100 * d ≤ b.1 → 13286 * d ≤ b.2 → Sm p l e room_1 s m args below meth c E (RL, 7, some FieldType.boolean, false) 601024 7293034 w0 ad0 (fun ou _ => ou = .inl (some (.int 1))) 23 L [] w b
  | 0, j, L, w, b, hL, hR, h1, h2, hb1, hb2 => x_head C hX hL (by omega) (fun _ => x_ret C hX) (fun h => absurd h (by omega))
  | d + 1, j, L, w, b, hL, hR, h1, h2, hb1, hb2 => x_head C hX hL (by omega) (fun h => absurd h (by omega)) (fun h => x_sw C hX hnc hL hR h (by omega) (by omega) (fun L' w' b' hL' hR' e1 e2 => x_next C hX hL' (fun L'' hL'' => lw_23 C hX hnc d (j + 1) L'' w' b' hL'' hR' (by omega) (by omega) (by omega) (by omega))))
end LAWE
