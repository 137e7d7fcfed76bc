section LAWC
variable {p : Program} {l : Launch} {e : Env} {s : State} {m : MethodId} {args : Array Value} {below : List Frame} {meth : Method} {c : Code}
variable {E : AE} {w0 : AW} {ad0 : AM} {N : Nat} {xs : Nat → Int32}
/-- the end of a case: istore 6, thrown() against k, out[0] against the answer -/
def TlAt (cc : ByteArray) (q : Nat) : Prop := decode cc q = .ok (.istore 6, 2) ∧ decode cc (q + 2) = .ok (.aload_n 2, 1) ∧ decode cc (q + 2 + 1) = .ok (.invokevirtual 110, 3) ∧ decode cc (q + 2 + 1 + 3) = .ok (.iload 5, 2) ∧ decode cc (q + 2 + 1 + 3 + 2) = .ok (.if_icmp .eq 5, 3) ∧
  decode cc (q + 13) = .ok (.iload 5, 2) ∧ decode cc (q + 13 + 2) = .ok (.ifCond .ne 15, 3) ∧ decode cc (q + 13 + 2 + 3) = .ok (.aload_n 3, 1) ∧ decode cc (q + 13 + 2 + 3 + 1) = .ok (.iconst 0, 1) ∧ decode cc (q + 13 + 2 + 3 + 1 + 1) = .ok (.laload, 1) ∧ decode cc (q + 13 + 2 + 3 + 1 + 1 + 1) = .ok (.iload 6, 2) ∧ decode cc (q + 13 + 2 + 3 + 1 + 1 + 1 + 2) = .ok (.i2l, 1) ∧ decode cc (q + 13 + 2 + 3 + 1 + 1 + 1 + 2 + 1) = .ok (.lcmp, 1) ∧ decode cc (q + 13 + 2 + 3 + 1 + 1 + 1 + 2 + 1 + 1) = .ok (.ifCond .eq 5, 3) ∧ decode cc (q + 30) = .ok (.goto (2241 - ((q + 30 : Nat) : Int)), 3)
def tlDec (cc : ByteArray) (q : Nat) : Decidable (TlAt cc q) := by unfold TlAt; infer_instance
theorem lw_j {j : Nat} (hX : ScX E s w0 ad0 N xs) (hj : 6 * j + 6 ≤ N) : j < 512 := by
  have := hX.2.2.2.2
  omega
theorem lgcmp_self (x : Int64) : lg_cmp x x = 0 := by simp [lg_cmp]
theorem x_tail (C : Cx p l room_1 s m args meth c E (RL, 7, some FieldType.boolean, false) cL_law 601024 7293034) (hX : ScX E s w0 ad0 N xs) {q j k0 : Nat} (hA : TlAt cL_law q) {L : AL} {w : AW} {b : Nat × Nat} {z : Int32} (hL : HL L j) (h5 : L 5 = some (.int (nI k0))) (hk : k0 ≤ 2) (hR : Rel (j + 1) w) (hth : wI w 768 100 = nI k0) (hz : k0 = 0 → wJ w 222 0 = z.toInt64)
    (k : ∀ L', HL L' j → Sm p l e room_1 s m args below meth c E (RL, 7, some FieldType.boolean, false) 601024 7293034 w0 ad0 (fun ou _ => ou = .inl (some (.int 1))) 2241 L' [] w b) : Sm p l e room_1 s m args below meth c E (RL, 7, some FieldType.boolean, false) 601024 7293034 w0 ad0 (fun ou _ => ou = .inl (some (.int 1))) q L [.int z] w b := by
  obtain ⟨d1, d2, d3, d4, d5, d6, d7, d8, d9, d10, d11, d12, d13, d14, d15⟩ := hA
  have hL6 := hL.s6 (.int z)
  have h56 : ls1 L 6 (.int z) 5 = some (.int (nI k0)) := by simp [ls1, h5]
  have h66 : ls1 L 6 (.int z) 6 = some (.int z) := by simp [ls1]
  refine tx C d1 (by decide) ⟨rfl, z, [], rfl, by decide, ?_⟩
  generalize ls1 L 6 (.int z) = L6 at hL6 h56 h66 ⊢
  refine tx C d2 (by decide) ⟨rfl, some 100, hL6.2.2.1, ?_⟩
  refine tx_V (i := 100) (r := []) (t := []) (kd := 12) (Q1 := fun ou v => ou = .inl (some (.int (nI k0))) ∧ v = w) C d3 (ri_T hR.ri) (by decide) (ct_X12_thrown l E [.ref 100] w _ ⟨rfl, hR.ri, by rw [hth], rfl⟩) (by decide) (by decide) (TBL_tb (List.mem_append_right _ (List.mem_append_right _ (List.mem_append_right _ (List.mem_append_right _ (List.mem_append_right _ (List.mem_append_left _ (List.mem_of_getElem? (i := 20) rfl))))))) rfl) (TBL_tb (List.mem_append_left _ (List.mem_of_getElem? (i := 7) rfl)) rfl) (TBL_tb (List.mem_append_right _ (List.mem_append_right _ (List.mem_append_right _ (List.mem_append_right _ (List.mem_append_right _ (List.mem_append_left _ (List.mem_of_getElem? (i := 17) rfl))))))) rfl) ⟨by decide, by decide, by decide +kernel⟩ (TBL_tb (List.mem_append_right _ (List.mem_append_right _ (List.mem_append_right _ (List.mem_append_right _ (List.mem_append_right _ (List.mem_append_left _ (List.mem_of_getElem? (i := 18) rfl))))))) rfl) (TBL_tb (List.mem_append_right _ (List.mem_append_right _ (List.mem_append_right _ (List.mem_append_right _ (List.mem_append_right _ (List.mem_append_left _ (List.mem_of_getElem? (i := 19) rfl))))))) rfl) rfl rfl (by decide) (Nat.zero_le _) (Nat.zero_le _) (fun Ec w1 h => by cases h.1) (fun v w1 h => ?_)
  obtain ⟨hv, rfl⟩ := h
  have hv := Sum.inl.inj hv
  subst hv
  refine tx C d4 (by decide) ⟨rfl, _, h56, ?_⟩
  refine tx C d5 (by decide) ⟨rfl, q + 13, _, _, [], by omega, rfl, fun _ => ?_, fun h => absurd rfl h⟩
  refine tx C d6 (by decide) ⟨rfl, _, h56, ?_⟩
  have fin : Sm p l e room_1 s m args below meth c E (RL, 7, some FieldType.boolean, false) 601024 7293034 w0 ad0 (fun ou _ => ou = .inl (some (.int 1))) (q + 30) L6 [] w1 (b.1 - 0, b.2 - 0) := tx C d15 (by decide) ⟨rfl, 2241, by omega, k L6 hL6⟩
  refine tx C d7 (by decide) ⟨rfl, q + 30, _, [], by omega, rfl, fun _ => fin, fun h => ?_⟩
  have hk0 : k0 = 0 := by
    have := (nI_eq (a := k0) (b := 0) (by omega) (by decide)).mp h
    exact this
  refine tx C d8 (by decide) ⟨rfl, some 222, hL6.2.2.2.1, ?_⟩
  refine tx C d9 (by decide) ⟨rfl, ?_⟩
  refine tx C d10 (by decide) ⟨rfl, _, _, _, rfl, hR.o.1, by rw [hR.o.2.1]; exact vp_in_nI (show 0 < 1 by decide) (by decide), ?_⟩
  refine tx C d11 (by decide) ⟨rfl, _, h66, ?_⟩
  refine tx C d12 (by decide) ⟨rfl, _, _, rfl, ?_⟩
  refine tx C d13 (by decide) ⟨rfl, _, _, _, rfl, ?_⟩
  have ez : wJ w1 222 (Int32.ofInt 0).toNatClampNeg = z.toInt64 := hz hk0
  rw [ez, lgcmp_self]
  exact tx C d14 (by decide) ⟨rfl, q + 30, _, [], by omega, rfl, fun _ => fin, fun h => absurd rfl h⟩
/-- a case that goes through a wrapper -/
def CaAt (cc : ByteArray) (pc n iw ir : Nat) : Prop := decode cc pc = .ok (.aload_n 1, 1) ∧ (∀ k, k < n → ArgAt cc (pc + 1 + 6 * k) (k + 1)) ∧ decode cc (pc + 1 + 6 * n) = .ok (.aload_n 3, 1) ∧ decode cc (pc + 1 + 6 * n + 1) = .ok (.invokestatic iw, 3) ∧ decode cc (pc + 1 + 6 * n + 1 + 3) = .ok (.istore 5, 2) ∧ decode cc (pc + 1 + 6 * n + 1 + 3 + 2) = .ok (.aload_n 2, 1) ∧ (∀ k, k < n → ArgAt cc (pc + 1 + 6 * n + 1 + 3 + 2 + 1 + 6 * k) (k + 1)) ∧ decode cc (pc + 1 + 6 * n + 1 + 3 + 2 + 1 + 6 * n) = .ok (.invokevirtual ir, 3) ∧ TlAt cc (pc + 1 + 6 * n + 1 + 3 + 2 + 1 + 6 * n + 3)
def caDec (cc : ByteArray) (pc n iw ir : Nat) : Decidable (CaAt cc pc n iw ir) := by
  unfold CaAt
  letI : ∀ pc k, Decidable (ArgAt cc pc k) := fun pc k => argDec cc pc k
  letI : ∀ q, Decidable (TlAt cc q) := fun q => tlDec cc q
  infer_instance
theorem av_len (xs : Nat → Int32) (j n : Nat) : (av xs j n).length = n := by unfold av; rw [List.length_map, List.length_range]
theorem ca_wr (C : Cx p l room_1 s m args meth c E (RL, 7, some FieldType.boolean, false) cL_law 601024 7293034) (hX : ScX E s w0 ad0 N xs) (hnc : ∀ w ∈ NCW, w.before args s = true) {pc n iw ir j : Nat} (hA : CaAt cL_law pc n iw ir) {L : AL} {w : AW} {b : Nat × Nat} (hL : HL L j) (hR : Rel j w) (hj : 6 * j + 6 ≤ N) (hn5 : n ≤ 5)
    {y : MethodName} {bytes : ByteArray} {maxL fr lo kc ks : Nat} {hh : List (Nat × Nat × Nat × Nat)} {SP : CSp} (hM : MW l E y bytes maxL hh fr lo kc ks (.ref 200 :: (av xs j n ++ [.ref 222])) w (WQ SP (av xs j n) j)) (hfr : fr + 1 ≤ room_1.frames) (hlo : 8 + (maxL + 11) + lo ≤ room_1.locals) (hco : Cond.codeWith y bytes maxL (some .int) hh ∈ TBL) (hin : Cond.initialized y.cls ∈ TBL) (hli : Cond.methodLink RL iw y ∈ TBL) (hnm : y.cls ≠ "java/lang/invoke/MethodHandle" ∧ y.cls ≠ "java/lang/invoke/VarHandle" ∧ (parseMethodDescriptor y.desc).map (fun d => d.parameters.length) = some (n + 2)) (hstt : Cond.static y ∈ TBL)
    {y2 : MethodName} {bytes2 : ByteArray} {maxL2 fr2 lo2 kc2 ks2 : Nat} (hM2 : ∀ w1 K, SP (.ref 100 :: av xs j n) w1 K → wT w1 100 = 13 ∧ MA l E y2 bytes2 maxL2 (some .int) fr2 lo2 kc2 ks2 (.ref 100 :: av xs j n) w1 (fun ou v => K ou v ∧ wJ v = wJ w1)) (hfr2 : fr2 + 1 ≤ room_1.frames) (hlo2 : 8 + (maxL2 + 11) + lo2 ≤ room_1.locals) (hco2 : Cond.code y2 bytes2 maxL2 (some .int) ∈ TBL) (hin2 : Cond.initialized y2.cls ∈ TBL) (hli2 : Cond.methodLink RL ir y2 ∈ TBL) (hnm2 : y2.cls ≠ "java/lang/invoke/MethodHandle" ∧ y2.cls ≠ "java/lang/invoke/VarHandle" ∧ (parseMethodDescriptor y2.desc).map (fun d => d.parameters.length) = some n) (hinst2 : Cond.instanceMethod y2 ∈ TBL) (hsel2 : Cond.selects y2.cls y2 y2 ∈ TBL) (hcls2 : y2.cls = vRn 12)
    (hb1 : kc + kc2 ≤ b.1) (hb2 : ks + ks2 ≤ b.2) (k : ∀ L' w' b', HL L' j → Rel (j + 1) w' → b.1 ≤ b'.1 + (kc + kc2) → b.2 ≤ b'.2 + (ks + ks2) → Sm p l e room_1 s m args below meth c E (RL, 7, some FieldType.boolean, false) 601024 7293034 w0 ad0 (fun ou _ => ou = .inl (some (.int 1))) 2241 L' [] w' b') : Sm p l e room_1 s m args below meth c E (RL, 7, some FieldType.boolean, false) 601024 7293034 w0 ad0 (fun ou _ => ou = .inl (some (.int 1))) pc L [] w b := by
  obtain ⟨d1, a1, d2, d3, d4, d5, a2, d6, tl⟩ := hA
  refine tx C d1 (by decide) ⟨rfl, some 200, hL.2.1, ?_⟩
  refine x_args C hX hL n a1 (by omega) ?_
  refine tx C d2 (by decide) ⟨rfl, some 222, hL.2.2.2.1, ?_⟩
  have es : (va_rf (some 222) :: ((av xs j n).reverse ++ [va_rf (some 200)])) = (Value.ref 200 :: (av xs j n ++ [.ref 222])).reverse ++ [] := by
    rw [List.append_nil, List.reverse_cons, List.reverse_append]
    rfl
  rw [es]
  refine so_wrap C d3 hM (fun Ec w1 h => by obtain ⟨_, _, _, h, _⟩ := h; cases h) hfr hlo hco hin hli hnm hstt hnc (by rw [List.length_cons, List.length_append, av_len]; rfl) (Nat.zero_le _) (by omega) (by omega) (fun v w1 hq => ?_)
  obtain ⟨k0, y0, hk0, ho, hro, hJ, hS⟩ := hq
  have ho := Sum.inl.inj ho
  subst ho
  obtain ⟨hT2, hM2⟩ := hM2 w1 _ hS
  have hL5 := hL.s5 (.int (nI k0))
  have h55 : ls1 L 5 (.int (nI k0)) 5 = some (.int (nI k0)) := by simp [ls1]
  refine tx C d4 (by decide) ⟨rfl, nI k0, [], rfl, by decide, ?_⟩
  generalize ls1 L 5 (.int (nI k0)) = L5 at hL5 h55 ⊢
  refine tx C d5 (by decide) ⟨rfl, some 100, hL5.2.2.1, ?_⟩
  refine x_args C hX hL5 n a2 (by omega) ?_
  have es2 : (av xs j n).reverse ++ [va_rf (some 100)] = (Value.ref 100 :: av xs j n).reverse ++ [] := by
    rw [List.append_nil, List.reverse_cons]
    rfl
  rw [es2]
  refine tx_V (kd := 12) C d6 hT2 (by decide) hM2 hfr2 hlo2 hco2 hin2 hli2 hnm2 hinst2 hsel2 hcls2 (av_len _ _ _) (Nat.zero_le _) (by dsimp only; omega) (by dsimp only; omega) (fun Ec w2 h => by obtain ⟨⟨z, h, _⟩, _⟩ := h; cases h) (fun v w2 h => ?_)
  obtain ⟨⟨z, hv, hth, hz, hR2⟩, hJ2⟩ := h
  have hv := Sum.inl.inj hv
  subst hv
  exact x_tail C hX tl hL5 h55 hk0 hR2 hth (fun e0 => by rw [hJ2, hz e0]; exact hJ e0) (fun L' hL' => k L' w2 _ hL' hR2 (by dsimp only; omega) (by dsimp only; omega))
/-- a case without a wrapper -/
def CpAt (cc : ByteArray) (pc n ic ir : Nat) : Prop := decode cc pc = .ok (.aload_n 1, 1) ∧ (∀ k, k < n → ArgAt cc (pc + 1 + 6 * k) (k + 1)) ∧ decode cc (pc + 1 + 6 * n) = .ok (.invokevirtual ic, 3) ∧ decode cc (pc + 1 + 6 * n + 3) = .ok (.aload_n 2, 1) ∧ (∀ k, k < n → ArgAt cc (pc + 1 + 6 * n + 3 + 1 + 6 * k) (k + 1)) ∧ decode cc (pc + 1 + 6 * n + 3 + 1 + 6 * n) = .ok (.invokevirtual ir, 3) ∧ decode cc (pc + 1 + 6 * n + 3 + 1 + 6 * n + 3) = .ok (.if_icmp .eq (2241 - ((pc + 1 + 6 * n + 3 + 1 + 6 * n + 3 : Nat) : Int)), 3)
def cpDec (cc : ByteArray) (pc n iw ir : Nat) : Decidable (CpAt cc pc n iw ir) := by
  unfold CpAt
  letI : ∀ pc k, Decidable (ArgAt cc pc k) := fun pc k => argDec cc pc k
  infer_instance
theorem ca_pl (C : Cx p l room_1 s m args meth c E (RL, 7, some FieldType.boolean, false) cL_law 601024 7293034) (hX : ScX E s w0 ad0 N xs) {pc n ic ir j : Nat} (hA : CpAt cL_law pc n ic ir) {L : AL} {w : AW} {b : Nat × Nat} (hL : HL L j) (hR : Rel j w) (hj : 6 * j + 6 ≤ N) (hn5 : n ≤ 5)
    {y : MethodName} {bytes : ByteArray} {maxL fr lo kc ks : Nat} {SP : CSp} (hM : MA l E y bytes maxL (some .int) fr lo kc ks (.ref 200 :: av xs j n) w (PRd SP (av xs j n) j)) (hfr : fr + 1 ≤ room_1.frames) (hlo : 8 + (maxL + 11) + lo ≤ room_1.locals) (hco : Cond.code y bytes maxL (some .int) ∈ TBL) (hin : Cond.initialized y.cls ∈ TBL) (hli : Cond.methodLink RL ic y ∈ TBL) (hnm : y.cls ≠ "java/lang/invoke/MethodHandle" ∧ y.cls ≠ "java/lang/invoke/VarHandle" ∧ (parseMethodDescriptor y.desc).map (fun d => d.parameters.length) = some n) (hinst : Cond.instanceMethod y ∈ TBL) (hsel : Cond.selects y.cls y y ∈ TBL) (hcls : y.cls = vRn 11)
    {y2 : MethodName} {bytes2 : ByteArray} {maxL2 fr2 lo2 kc2 ks2 : Nat} (hM2 : ∀ w1 K, SP (.ref 100 :: av xs j n) w1 K → wT w1 100 = 13 ∧ MA l E y2 bytes2 maxL2 (some .int) fr2 lo2 kc2 ks2 (.ref 100 :: av xs j n) w1 K) (hfr2 : fr2 + 1 ≤ room_1.frames) (hlo2 : 8 + (maxL2 + 11) + lo2 ≤ room_1.locals) (hco2 : Cond.code y2 bytes2 maxL2 (some .int) ∈ TBL) (hin2 : Cond.initialized y2.cls ∈ TBL) (hli2 : Cond.methodLink RL ir y2 ∈ TBL) (hnm2 : y2.cls ≠ "java/lang/invoke/MethodHandle" ∧ y2.cls ≠ "java/lang/invoke/VarHandle" ∧ (parseMethodDescriptor y2.desc).map (fun d => d.parameters.length) = some n) (hinst2 : Cond.instanceMethod y2 ∈ TBL) (hsel2 : Cond.selects y2.cls y2 y2 ∈ TBL) (hcls2 : y2.cls = vRn 12)
    (hb1 : kc + kc2 ≤ b.1) (hb2 : ks + ks2 ≤ b.2) (k : ∀ L' w' b', HL L' j → Rel (j + 1) w' → b.1 ≤ b'.1 + (kc + kc2) → b.2 ≤ b'.2 + (ks + ks2) → Sm p l e room_1 s m args below meth c E (RL, 7, some FieldType.boolean, false) 601024 7293034 w0 ad0 (fun ou _ => ou = .inl (some (.int 1))) 2241 L' [] w' b') : Sm p l e room_1 s m args below meth c E (RL, 7, some FieldType.boolean, false) 601024 7293034 w0 ad0 (fun ou _ => ou = .inl (some (.int 1))) pc L [] w b := by
  obtain ⟨d1, a1, d3, d5, a2, d6, d7⟩ := hA
  refine tx C d1 (by decide) ⟨rfl, some 200, hL.2.1, ?_⟩
  refine x_args C hX hL n a1 (by omega) ?_
  have es : (av xs j n).reverse ++ [va_rf (some 200)] = (Value.ref 200 :: av xs j n).reverse ++ [] := by
    rw [List.append_nil, List.reverse_cons]
    rfl
  rw [es]
  refine tx_V (kd := 11) C d3 hR.ci.2.1.1 (by decide) hM hfr hlo hco hin hli hnm hinst hsel hcls (av_len _ _ _) (Nat.zero_le _) (by omega) (by omega) (fun Ec w1 h => by obtain ⟨_, _, h, _⟩ := h; cases h) (fun v w1 hq => ?_)
  obtain ⟨hro, y0, ho, hS⟩ := hq
  have ho := Sum.inl.inj ho
  subst ho
  obtain ⟨hT2, hM2⟩ := hM2 w1 _ hS
  refine tx C d5 (by decide) ⟨rfl, some 100, hL.2.2.1, ?_⟩
  refine x_args C hX hL n a2 (by omega) ?_
  have es2 : (av xs j n).reverse ++ (va_rf (some 100) :: ((some (Value.int y0)).toList ++ [])) = (Value.ref 100 :: av xs j n).reverse ++ [.int y0] := by
    rw [List.reverse_cons, List.append_assoc]
    rfl
  rw [es2]
  refine tx_V (kd := 12) C d6 hT2 (by decide) hM2 hfr2 hlo2 hco2 hin2 hli2 hnm2 hinst2 hsel2 hcls2 (av_len _ _ _) (show 1 ≤ 8 by decide) (by dsimp only; omega) (by dsimp only; omega) (fun Ec w2 h => by cases h.1) (fun v w2 h => ?_)
  obtain ⟨hv, hR2⟩ := h
  have hv := Sum.inl.inj hv
  subst hv
  exact tx C d7 (by decide) ⟨rfl, 2241, _, _, [], by omega, rfl, fun _ => k L w2 _ hL hR2 (by dsimp only; omega) (by dsimp only; omega), fun h => absurd rfl h⟩
end LAWC
