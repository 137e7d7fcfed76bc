/-! ===== THE LAW: one instruction at a time ===== -/
section LAWS
variable {p : Program} {l : Launch} {e : Env} {R : Room} {s : State} {m : MethodId} {args : Array Value} {below : List Frame} {meth : Method} {c : Code}
variable {E : AE} {S : MS} {cc : ByteArray} {mc ms : Nat} {w0 : AW} {ad0 : AM} {Q : AO → AW → Prop}
/-- a table of one instruction -/
def M1 (pc : Nat) (i : Instr) (len : Nat) (gl : Nat → Option CI) : MT := (fun q => if q = pc then some (i, len) else none, fun _ => none, gl, fun _ => none, fun _ => none, fun _ => none)
theorem M1_at (pc : Nat) (i : Instr) (len : Nat) (gl : Nat → Option CI) : (M1 pc i len gl).1 pc = some (i, len) := by simp [M1]
theorem mv1 {own : String} {pc : Nat} {i : Instr} {len : Nat} {gl : Nat → Option CI} (hd : decode cc pc = .ok (i, len % 10000)) (hg : ∀ idx ci, gl idx = some ci → CV l R E own idx ci) (hn : ∀ n, i = .new n → len = 10003 → False) : MV l R E own cc (M1 pc i len gl) := by
  refine ⟨fun q i' len' h => ?_, fun _ _ _ h => by simp [M1] at h, hg, fun _ _ h => by simp [M1] at h, fun _ _ h => by simp [M1] at h, fun _ _ h => by simp [M1] at h, fun q n h => ?_⟩
  · simp only [M1] at h
    split at h
    · rename_i e1
      subst e1
      cases h
      exact hd
    · cases h
  · simp only [M1] at h
    split at h
    · cases h
      exact absurd rfl (fun z => hn n rfl z)
    · cases h
theorem tx (C : Cx p l R s m args meth c E S cc mc ms) {i : Instr} {len pc : Nat} {L : AL} {st : List Value} {w : AW} {b : Nat × Nat} (hd : decode cc pc = .ok (i, len)) (hl : len < 10000) (h : wpS S (M1 pc i len (fun _ => none)) Q i len (Sm p l e R s m args below meth c E S mc ms w0 ad0 Q) pc L st w b) : Sm p l e R s m args below meth c E S mc ms w0 ad0 Q pc L st w b :=
  wpS_ok C (mv1 (by rw [Nat.mod_eq_of_lt hl]; exact hd) (fun _ _ h => by cases h) (fun n _ h => by omega)) (fun _ _ _ _ _ h => h) (M1_at _ _ _ _) hl h
theorem txE (C : Cx p l R s m args meth c E S cc mc ms) {i : Instr} {len pc : Nat} {L : AL} {st : List Value} {w : AW} {b : Nat × Nat} (hd : decode cc pc = .ok (i, len)) (hl : len < 10000) (hn : ∀ n, i ≠ .new n) (h : wpE S (M1 pc i (len + 10000) (fun _ => none)) Q i len (Sm p l e R s m args below meth c E S mc ms w0 ad0 Q) pc L st w b) : Sm p l e R s m args below meth c E S mc ms w0 ad0 Q pc L st w b :=
  wpE_ok C (M := M1 pc i (len + 10000) (fun _ => none)) (mv1 (by rw [Nat.add_mod_right, Nat.mod_eq_of_lt hl]; exact hd) (fun _ _ h => by cases h) (fun n h _ => hn n h)) (fun _ _ _ _ _ h => h) (M1_at _ _ _ _) (by omega) (by rw [Nat.add_sub_cancel]; exact h)
/-- a call of a thing of class kd -/
theorem tx_V (C : Cx p l R s m args meth c E S cc mc ms) {pc n i np kc ks fr lo maxL kd : Nat} {L : AL} {r t : List Value} {w : AW} {b : Nat × Nat} {y : MethodName} {bytes : ByteArray} {ret : Option FieldType} {Q1 : AO → AW → Prop} (hd : decode cc pc = .ok (.invokevirtual n, 3)) (hT : wT w i = kd + 1) (hkd : kd < 13)
    (hM : MA l E y bytes maxL ret fr lo kc ks (.ref i :: r) w Q1) (hfr : fr + 1 ≤ R.frames) (hlo : 8 + (maxL + 11) + lo ≤ R.locals) (hco : Cond.code y bytes maxL ret ∈ TBL) (hin : Cond.initialized y.cls ∈ TBL) (hli : Cond.methodLink S.1 n y ∈ TBL) (hnm : y.cls ≠ "java/lang/invoke/MethodHandle" ∧ y.cls ≠ "java/lang/invoke/VarHandle" ∧ (parseMethodDescriptor y.desc).map (fun d => d.parameters.length) = some np) (hinst : Cond.instanceMethod y ∈ TBL) (hsel : Cond.selects y.cls y y ∈ TBL) (hcls : y.cls = vRn kd) (hlen : r.length = np) (hsum : wsum t ≤ 8) (hb1 : kc ≤ b.1) (hb2 : ks ≤ b.2)
    (hN : ∀ Ec w1, ¬ Q1 (.inr Ec) w1) (k1 : ∀ v w1, Q1 (.inl v) w1 → Sm p l e R s m args below meth c E S mc ms w0 ad0 Q (pc + 3) L (v.toList ++ t) w1 (b.1 - kc, b.2 - ks)) : Sm p l e R s m args below meth c E S mc ms w0 ad0 Q pc L ((Value.ref i :: r).reverse ++ t) w b := by
  have hCV : CV l R E S.1 n (kd + 1, np + 1, kc, ks, fun as w Q => MA l E y bytes maxL ret fr lo kc ks as w Q) := by
    refine ⟨fun h => ?_, fun h => ?_, fun h => ?_, fun h => ?_, fun h => ?_, fun h => ?_, fun _ => ⟨y, bytes, maxL, ret, fr, lo, np, fun _ _ _ h => h, hfr, hlo, hco, hin, fun _ => hli, hnm, fun h => ?_, fun _ _ => ⟨hinst, hsel, ?_, rfl⟩, fun h => ?_, fun h => ?_⟩⟩
    all_goals dsimp only at *
    iterate 7 omega
    · rw [if_neg (by omega), if_neg (by omega), Nat.add_sub_cancel]; exact hcls
    · omega
    · omega
  have V : MV l R E S.1 cc (M1 pc (.invokevirtual n) 3 (fun q => if q = n then some (kd + 1, np + 1, kc, ks, fun as w Q => MA l E y bytes maxL ret fr lo kc ks as w Q) else none)) := mv1 (by exact hd) (fun idx ci h => by
    split at h
    · rename_i e1; subst e1; cases h; exact hCV
    · cases h) (fun n h => by cases h)
  refine wpS_ok C V (K := Sm p l e R s m args below meth c E S mc ms w0 ad0 Q) (fun _ _ _ _ _ h => h) (M1_at _ _ _ _) (by decide) ?_
  refine ⟨rfl, (kd + 1, np + 1, kc, ks, fun as w Q => MA l E y bytes maxL ret fr lo kc ks as w Q), .ref i :: r, t, by simp [M1], ⟨i, r, rfl, hT.symm, by dsimp only; omega, by dsimp only; omega⟩, by rw [List.length_cons, hlen], rfl, hsum, hb1, hb2, hM.mono (fun ou w1 h => ?_)⟩
  cases ou with
  | inl v => exact k1 v w1 h
  | inr Ec => exact absurd h (hN _ _)
/-- a constructor -/
theorem tx_I (C : Cx p l R s m args meth c E S cc mc ms) {pc n i kc ks fr lo maxL : Nat} {L : AL} {t : List Value} {w : AW} {b : Nat × Nat} {y : MethodName} {bytes : ByteArray} {Q1 : AO → AW → Prop} (hd : decode cc pc = .ok (.invokespecial n, 3))
    (hM : MA l E y bytes maxL none fr lo kc ks [.ref i] w Q1) (hfr : fr + 1 ≤ R.frames) (hlo : 8 + (maxL + 11) + lo ≤ R.locals) (hco : Cond.code y bytes maxL none ∈ TBL) (hin : Cond.initialized y.cls ∈ TBL) (hli : Cond.methodLink S.1 n y ∈ TBL) (hnm : y.cls ≠ "java/lang/invoke/MethodHandle" ∧ y.cls ≠ "java/lang/invoke/VarHandle" ∧ (parseMethodDescriptor y.desc).map (fun d => d.parameters.length) = some 0) (hname : y.name = "<init>") (hinst : Cond.instanceMethod y ∈ TBL) (hsum : wsum t ≤ 8) (hb1 : kc ≤ b.1) (hb2 : ks ≤ b.2)
    (hN : ∀ Ec w1, ¬ Q1 (.inr Ec) w1) (k1 : ∀ v w1, Q1 (.inl v) w1 → Sm p l e R s m args below meth c E S mc ms w0 ad0 Q (pc + 3) L (v.toList ++ t) w1 (b.1 - kc, b.2 - ks)) : Sm p l e R s m args below meth c E S mc ms w0 ad0 Q pc L (.ref i :: t) w b := by
  have hCV : CV l R E S.1 n (100, 1, kc, ks, fun as w Q => MA l E y bytes maxL none fr lo kc ks as w Q) := by
    refine ⟨fun h => ?_, fun h => ?_, fun h => ?_, fun h => ?_, fun h => ?_, fun h => ?_, fun _ => ⟨y, bytes, maxL, none, fr, lo, 0, fun _ _ _ h => h, hfr, hlo, hco, hin, fun _ => hli, hnm, fun h => ?_, fun _ h => ?_, fun _ => ⟨hname, hinst, rfl, rfl⟩, fun h => ?_⟩⟩
    all_goals (dsimp only at *; omega)
  have V : MV l R E S.1 cc (M1 pc (.invokespecial n) 3 (fun q => if q = n then some (100, 1, kc, ks, fun as w Q => MA l E y bytes maxL none fr lo kc ks as w Q) else none)) := mv1 (by exact hd) (fun idx ci h => by
    split at h
    · rename_i e1; subst e1; cases h; exact hCV
    · cases h) (fun n h => by cases h)
  refine wpS_ok C V (K := Sm p l e R s m args below meth c E S mc ms w0 ad0 Q) (fun _ _ _ _ _ h => h) (M1_at _ _ _ _) (by decide) ?_
  refine Or.inr ⟨rfl, (100, 1, kc, ks, fun as w Q => MA l E y bytes maxL none fr lo kc ks as w Q), [.ref i], t, by simp [M1], rfl, ⟨i, [], rfl⟩, rfl, rfl, hsum, hb1, hb2, hM.mono (fun ou w1 h => ?_)⟩
  cases ou with
  | inl v => exact k1 v w1 h
  | inr Ec => exact absurd h (hN _ _)
/-- the script: N ints xs, at an address that no call writes -/
def ScX (E : AE) (s : State) (w0 : AW) (ad0 : AM) (N : Nat) (xs : Nat → Int32) : Prop := va_X (ad0.1 224) N xs s s.heap ∧ ad0.1 224 < s.heap.size ∧ ¬ E.2.2 ≤ ad0.1 224 ∧ wT w0 224 = 51 ∧ N ≤ 3072
theorem sx_iald (C : Cx p l R s m args meth c E S cc mc ms) {N : Nat} {xs : Nat → Int32} (hX : ScX E s w0 ad0 N xs) {pc k : Nat} {L : AL} {t : List Value} {w : AW} {b : Nat × Nat} (hd : decode cc pc = .ok (.iaload, 1)) (hk : k < N) (k1 : Sm p l e R s m args below meth c E S mc ms w0 ad0 Q (pc + 1) L (.int (xs k) :: t) w b) : Sm p l e R s m args below meth c E S mc ms w0 ad0 Q pc L (.int (nI k) :: .ref 224 :: t) w b := by
  intro ad H locs ls cells slots h1 h2 h3 h4 h5 h6 h7 h8
  obtain ⟨hx, hb, -⟩ := id C
  obtain ⟨⟨scr, g1, g2, g3, g4, g5⟩, hb1, hb2, hT, hn⟩ := hX
  have e1 : ad.1 224 = ad0.1 224 := (h8 224 (by rw [hT]; decide)).2
  show W p l e R s m args below meth c H locs cells slots _ (F0 m pc ls (.int (nI k) :: .ref (ad.1 224) :: t.map (cv ad)))
  rw [e1]
  exact W.iald (v := .int (xs k)) hx hb (by rw [h5.2.1 _ hb1 hb2]; exact g1) g2 g3 (by rw [g4]; exact vp_in_nI hk (by omega)) (by rw [nI_clamp (by omega)]; exact g5 k hk) rfl rfl hd (k1 ad H locs ls cells slots h1 h2 h3 (lcv (lvv_int _ _) (lt1 (lt1 h4))) h5 h6 h7 h8)
theorem sx_alen (C : Cx p l R s m args meth c E S cc mc ms) {N : Nat} {xs : Nat → Int32} (hX : ScX E s w0 ad0 N xs) {pc : Nat} {L : AL} {t : List Value} {w : AW} {b : Nat × Nat} (hd : decode cc pc = .ok (.arraylength, 1)) (k1 : Sm p l e R s m args below meth c E S mc ms w0 ad0 Q (pc + 1) L (.int (nI N) :: t) w b) : Sm p l e R s m args below meth c E S mc ms w0 ad0 Q pc L (.ref 224 :: t) w b := by
  intro ad H locs ls cells slots h1 h2 h3 h4 h5 h6 h7 h8
  obtain ⟨hx, hb, -⟩ := id C
  obtain ⟨⟨scr, g1, g2, g3, g4, g5⟩, hb1, hb2, hT, hn⟩ := hX
  have e1 : ad.1 224 = ad0.1 224 := (h8 224 (by rw [hT]; decide)).2
  show W p l e R s m args below meth c H locs cells slots _ (F0 m pc ls (.ref (ad.1 224) :: t.map (cv ad)))
  rw [e1]
  exact W.alen (n := Int32.ofNat N) hx hb (by rw [h5.2.1 _ hb1 hb2]; exact g1) g2 (by rw [g4] <;> rfl) rfl rfl hd (k1 ad H locs ls cells slots h1 h2 h3 (lcv (lvv_int _ _) (lt1 h4)) h5 h6 h7 h8)
/-- the law's locals behind j calls -/
def HL (L : AL) (j : Nat) : Prop := L 0 = some (.ref 224) ∧ L 1 = some (.ref 200) ∧ L 2 = some (.ref 100) ∧ L 3 = some (.ref 222) ∧ L 4 = some (.int (nI (6 * j)))
theorem HL.s5 {L : AL} {j : Nat} (h : HL L j) (v : Value) : HL (ls1 L 5 v) j := by
  obtain ⟨a, b, c, d, f⟩ := h
  refine ⟨?_, ?_, ?_, ?_, ?_⟩ <;> simp [ls1, a, b, c, d, f]
theorem HL.s6 {L : AL} {j : Nat} (h : HL L j) (v : Value) : HL (ls1 L 6 v) j := by
  obtain ⟨a, b, c, d, f⟩ := h
  refine ⟨?_, ?_, ?_, ?_, ?_⟩ <;> simp [ls1, a, b, c, d, f]
theorem HL.s4 {L : AL} {j : Nat} (h : HL L j) : HL (ls1 L 4 (.int (nI (6 * j) + Int32.ofInt 6))) (j + 1) := by
  obtain ⟨a, b, c, d, f⟩ := h
  refine ⟨?_, ?_, ?_, ?_, ?_⟩ <;> simp only [ls1, a, b, c, d, f]
  · simp
  · simp
  · simp
  · simp
  · simp only [if_pos]
    congr 2
    exact nI_add (6 * j) 6
/-- an argument is read: script[i + k] -/
def ArgAt (cc : ByteArray) (pc k : Nat) : Prop := decode cc pc = .ok (.aload_n 0, 1) ∧ decode cc (pc + 1) = .ok (.iload 4, 2) ∧ decode cc (pc + 1 + 2) = .ok (.iconst (k : Int), 1) ∧ decode cc (pc + 1 + 2 + 1) = .ok (.iadd, 1) ∧ decode cc (pc + 1 + 2 + 1 + 1) = .ok (.iaload, 1)
def argDec (cc : ByteArray) (pc k : Nat) : Decidable (ArgAt cc pc k) := by unfold ArgAt; infer_instance
theorem x_arg (C : Cx p l R s m args meth c E S cc mc ms) {N : Nat} {xs : Nat → Int32} (hX : ScX E s w0 ad0 N xs) {pc k j : Nat} (hA : ArgAt cc pc k) {L : AL} {st : List Value} {w : AW} {b : Nat × Nat} (hL : HL L j) (hj : 6 * j + k < N) (k1 : Sm p l e R s m args below meth c E S mc ms w0 ad0 Q (pc + 6) L (.int (xs (6 * j + k)) :: st) w b) : Sm p l e R s m args below meth c E S mc ms w0 ad0 Q pc L st w b := by
  obtain ⟨d1, d2, d3, d4, d5⟩ := hA
  refine tx C d1 (by decide) ⟨rfl, some 224, hL.1, ?_⟩
  refine tx C d2 (by decide) ⟨rfl, _, hL.2.2.2.2, ?_⟩
  refine tx C d3 (by decide) ⟨rfl, ?_⟩
  refine tx C d4 (by decide) ⟨rfl, _, _, _, rfl, ?_⟩
  have e3 : nI (6 * j) + Int32.ofInt (k : Int) = nI (6 * j + k) := nI_add (6 * j) k
  rw [e3]
  exact sx_iald C hX d5 hj k1
/-- what the script holds of call j -/
def av (xs : Nat → Int32) (j n : Nat) : List Value := (List.range n).map (fun k => Value.int (xs (6 * j + (k + 1))))
theorem x_args (C : Cx p l R s m args meth c E S cc mc ms) {N : Nat} {xs : Nat → Int32} (hX : ScX E s w0 ad0 N xs) {pc j : Nat} {L : AL} {st : List Value} {w : AW} {b : Nat × Nat} (hL : HL L j) : ∀ n, (∀ k, k < n → ArgAt cc (pc + 6 * k) (k + 1)) → 6 * j + n < N → Sm p l e R s m args below meth c E S mc ms w0 ad0 Q (pc + 6 * n) L ((av xs j n).reverse ++ st) w b → Sm p l e R s m args below meth c E S mc ms w0 ad0 Q pc L st w b
  | 0, _, _, k => k
  | n + 1, hA, hj, k => by
    refine x_args C hX hL n (fun k hk => hA k (by omega)) (by omega) ?_
    refine x_arg C hX (hA n (by omega)) hL (by omega) ?_
    have e1 : (av xs j (n + 1)).reverse ++ st = .int (xs (6 * j + (n + 1))) :: ((av xs j n).reverse ++ st) := by
      unfold av
      rw [List.range_succ, List.map_append, List.reverse_append]
      rfl
    rw [e1] at k
    exact k
end LAWS
