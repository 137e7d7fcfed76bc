/-! ===== A METHOD WITH CLAUSES: what stands fast in it ===== -/
section TY
variable {p : Program} {l : Launch} {e : Env} {R : Room} {s : State} {m : MethodId} {args : Array Value} {below : List Frame} {meth : Method} {c : Code}
variable {E : AE} {S : MS} {cc : ByteArray} {mc ms : Nat} {w0 : AW} {ad0 : AM} {Q : AO → AW → Prop}
def Cy (p : Program) (l : Launch) (R : Room) (s : State) (m : MethodId) (args : Array Value) (meth : Method) (c : Code) (E : AE) (S : MS) (cc : ByteArray) (mc ms : Nat) : Prop :=
  p.tables.exec = Jvm.exec ∧ c.code = cc ∧ c.maxLocals = S.2.1 ∧ s.vm.findClass S.1 = some m.cls ∧ (∀ w ∈ TBL, w.before args s = true) ∧ KK E s ∧ meth.sig.returnType = some .int ∧ meth.locks = false ∧ E.2.2 ≤ s.heap.size ∧ R.cells = mc ∧ R.slots = ms ∧ l.stackTraces = false ∧ KY E s s.heap
theorem ty_aload (C : Cy p l R s m args meth c E S cc mc ms) {pc n r : Nat} {L : AL} {t : List Value} {w : AW} {b : Nat × Nat} (hd : decode cc pc = .ok (.aload n, 2)) (hL : L n = some (.ref r)) (k : Sm p l e R s m args below meth c E S mc ms w0 ad0 Q (pc + 2) L (.ref r :: t) w b) : Sm p l e R s m args below meth c E S mc ms w0 ad0 Q pc L t w b := by
  intro ad H locs ls cells slots h1 h2 h3 h4 h5 h6 h7 h8
  exact lv_aload C.1 C.2.1 hd (h2.2.2 _ _ hL) (k ad H locs ls cells slots h1 h2 h3 (lcv (h3 _ _ hL) h4) h5 h6 h7 h8)
theorem ty_aload_n (C : Cy p l R s m args meth c E S cc mc ms) {pc r : Nat} {n : Fin 4} {L : AL} {t : List Value} {w : AW} {b : Nat × Nat} (hd : decode cc pc = .ok (.aload_n n, 1)) (hL : L (n : Nat) = some (.ref r)) (k : Sm p l e R s m args below meth c E S mc ms w0 ad0 Q (pc + 1) L (.ref r :: t) w b) : Sm p l e R s m args below meth c E S mc ms w0 ad0 Q pc L t w b := by
  intro ad H locs ls cells slots h1 h2 h3 h4 h5 h6 h7 h8
  exact lv_aload_n C.1 C.2.1 hd rfl (h2.2.2 _ _ hL) (k ad H locs ls cells slots h1 h2 h3 (lcv (h3 _ _ hL) h4) h5 h6 h7 h8)
theorem ty_iload (C : Cy p l R s m args meth c E S cc mc ms) {pc n : Nat} {x : Int32} {L : AL} {t : List Value} {w : AW} {b : Nat × Nat} (hd : decode cc pc = .ok (.iload n, 2)) (hL : L n = some (.int x)) (k : Sm p l e R s m args below meth c E S mc ms w0 ad0 Q (pc + 2) L (.int x :: t) w b) : Sm p l e R s m args below meth c E S mc ms w0 ad0 Q pc L t w b := by
  intro ad H locs ls cells slots h1 h2 h3 h4 h5 h6 h7 h8
  exact lv_iload C.1 C.2.1 hd (h2.2.2 _ _ hL) (k ad H locs ls cells slots h1 h2 h3 (lcv (lvv_int _ _) h4) h5 h6 h7 h8)
theorem ty_iload_n (C : Cy p l R s m args meth c E S cc mc ms) {pc : Nat} {n : Fin 4} {x : Int32} {L : AL} {t : List Value} {w : AW} {b : Nat × Nat} (hd : decode cc pc = .ok (.iload_n n, 1)) (hL : L (n : Nat) = some (.int x)) (k : Sm p l e R s m args below meth c E S mc ms w0 ad0 Q (pc + 1) L (.int x :: t) w b) : Sm p l e R s m args below meth c E S mc ms w0 ad0 Q pc L t w b := by
  intro ad H locs ls cells slots h1 h2 h3 h4 h5 h6 h7 h8
  exact lv_iload_n C.1 C.2.1 hd rfl (h2.2.2 _ _ hL) (k ad H locs ls cells slots h1 h2 h3 (lcv (lvv_int _ _) h4) h5 h6 h7 h8)
theorem ty_iconst (C : Cy p l R s m args meth c E S cc mc ms) {pc : Nat} {n : Int} {L : AL} {t : List Value} {w : AW} {b : Nat × Nat} (hd : decode cc pc = .ok (.iconst n, 1)) (k : Sm p l e R s m args below meth c E S mc ms w0 ad0 Q (pc + 1) L (.int (Int32.ofInt n) :: t) w b) : Sm p l e R s m args below meth c E S mc ms w0 ad0 Q pc L t w b := by
  intro ad H locs ls cells slots h1 h2 h3 h4 h5 h6 h7 h8
  exact lv_iconst C.1 C.2.1 hd rfl (k ad H locs ls cells slots h1 h2 h3 (lcv (lvv_int _ _) h4) h5 h6 h7 h8)
theorem ty_goto (C : Cy p l R s m args meth c E S cc mc ms) {pc g : Nat} {d : Int} {L : AL} {t : List Value} {w : AW} {b : Nat × Nat} (hd : decode cc pc = .ok (.goto d, 3)) (hg : (pc : Int) + d = (g : Int)) (k : Sm p l e R s m args below meth c E S mc ms w0 ad0 Q g L t w b) : Sm p l e R s m args below meth c E S mc ms w0 ad0 Q pc L t w b := by
  intro ad H locs ls cells slots h1 h2 h3 h4 h5 h6 h7 h8
  exact lv_goto C.1 C.2.1 hd hg (k ad H locs ls cells slots h1 h2 h3 h4 h5 h6 h7 h8)
theorem ty_i2l (C : Cy p l R s m args meth c E S cc mc ms) {pc : Nat} {x : Int32} {L : AL} {t : List Value} {w : AW} {b : Nat × Nat} (hd : decode cc pc = .ok (.i2l, 1)) (k : Sm p l e R s m args below meth c E S mc ms w0 ad0 Q (pc + 1) L (.long x.toInt64 :: t) w b) : Sm p l e R s m args below meth c E S mc ms w0 ad0 Q pc L (.int x :: t) w b := by
  intro ad H locs ls cells slots h1 h2 h3 h4 h5 h6 h7 h8
  exact lv_i2l C.1 C.2.1 hd rfl (k ad H locs ls cells slots h1 h2 h3 (lcv (lvv_long _ _) (lt1 h4)) h5 h6 h7 h8)
theorem ty_lastore (C : Cy p l R s m args meth c E S cc mc ms) {pc i : Nat} {L : AL} {x : Int32} {v : Int64} {t : List Value} {w : AW} {b : Nat × Nat} (hd : decode cc pc = .ok (.lastore, 1)) (hT : wT w i = 22) (hin : vp_in x (wN w i)) (k : Sm p l e R s m args below meth c E S mc ms w0 ad0 Q (pc + 1) L t (sJ w i x.toNatClampNeg v) b) : Sm p l e R s m args below meth c E S mc ms w0 ad0 Q pc L (.long v :: .int x :: .ref i :: t) w b := by
  intro ad H locs ls cells slots h1 h2 h3 h4 h5 h6 h7 h8
  obtain ⟨hx, hb, -, hown, hts, hK, -⟩ := C
  have hne : wT w i ≠ 0 := by rw [hT]; decide
  refine W.last hx hb ((h1.2.2.1 i).2.2.2.1 hT) (hK.2.2.2.1 _ _) (fun q => by cases q) (by rw [arrV_size]; exact hin) rfl rfl hd fun H1 e z oq => ?_
  have hC1 : Conc E ad (sJ w i x.toNatClampNeg v) H1 := by
    refine h1.put hne (by rw [hT]; decide) z oq rfl (fun _ _ _ => rfl) (fun _ _ _ => rfl) rfl (fun j hj => rfl) (fun j hj => by funext q; rw [wJ_sJ, if_neg hj]) (fun _ _ => rfl) rfl (cOK.a22 (show wT w i = 22 from hT) ?_) (fun k j hj => h1.2.2.2.1 k i j hne hj) (fun k j hj => h1.2.2.2.2.1 i k j hne hj)
    rw [e]
    rw [arrV_store]
    congr 2
    funext q
    by_cases hq : q = x.toNatClampNeg
    · subst hq; simp [updV, wJ_sJ]
    · simp [updV, wJ_sJ, hq]
  exact k ad H1 _ ls cells slots hC1 h2 (fun j u hj => wT_of_same rfl (h3 j u hj)) (fun u hu => wT_of_same rfl (lt1 (lt1 (lt1 h4)) u hu)) (h5.put z oq ((h1.1 i hne (by rw [hT]; decide)).2 (by rw [hT]; decide))) h6 h7 h8
theorem ty_ireturn (C : Cy p l R s m args meth c E S cc mc ms) {pc : Nat} {x : Int32} {L : AL} {w : AW} {b : Nat × Nat} (hd : decode cc pc = .ok (.ireturn, 1)) (hq : Q (.inl (some (.int x))) w) : Sm p l e R s m args below meth c E S mc ms w0 ad0 Q pc L [.int x] w b := by
  intro ad H locs ls cells slots h1 h2 h3 h4 h5 h6 h7 h8
  obtain ⟨hx, hb, -, -, -, -, hr, hlocks, -⟩ := C
  refine vx_ret (W.widen (k := mc) (n := ms) (by omega) (by omega) ?_)
  exact W.zret hx hb hr rfl (so_end (r := some (.int x)) h1 h5 h8 (fun v hv => by cases hv; exact lvv_int _ _) hq) h5.2.2 hd hlocks
/-- what is owed at a clause's begin: the thrown thing lies on the stack, and no world knows it -/
def Hd (p : Program) (l : Launch) (e : Env) (R : Room) (s : State) (m : MethodId) (args : Array Value) (below : List Frame) (meth : Method) (c : Code) (E : AE) (S : MS) (mc ms : Nat) (w0 : AW) (ad0 : AM) (Q : AO → AW → Prop) (h : Nat) (w : AW) : Prop :=
  ∀ (ad : AM) (H : Heap) (locs : List Loc) (ls : Array Slot) (cells slots q : Nat), Conc E ad w H → ls.size = S.2.1 → lv_wf ls → va_S (fun q => E.2.2 ≤ q) s.heap H locs → cells ≤ mc → slots ≤ ms → mExt ad0 w0 ad w →
    W p l e R s m args below meth c H locs cells slots (vx_MQ below (mQc E ad0 w0 Q) (mXc E ad0 w0 Q) args s mc ms (fun q => E.2.2 ≤ q)) (F0 m h ls [.ref q])
theorem ty_hd2 (C : Cy p l R s m args meth c E S cc mc ms) {h n : Nat} {c0 : Int} {w : AW} (d0 : decode cc h = .ok (.astore n, 2)) (hn : n < S.2.1) (d1 : decode cc (h + 2) = .ok (.iconst c0, 1)) (d2 : decode cc (h + 2 + 1) = .ok (.ireturn, 1)) (hq : Q (.inl (some (.int (Int32.ofInt c0)))) w) : Hd p l e R s m args below meth c E S mc ms w0 ad0 Q h w := by
  intro ad H locs ls cells slots q h1 h2 h3 h5 h6 h7 h8
  obtain ⟨hx, hb, -, -, -, -, hr, hlocks, -⟩ := C
  refine lv_astore hx hb d0 (lv := []) ⟨h2, h3, fun q hq => by cases hq⟩ hn rfl (fun ls' _ => ?_)
  refine lv_iconst hx hb d1 rfl ?_
  refine vx_ret (W.widen (k := mc) (n := ms) h6 h7 ?_)
  exact W.zret hx hb hr rfl (so_end (r := some (.int (Int32.ofInt c0))) h1 h5 h8 (fun v hv => by cases hv; exact lvv_int _ _) hq) h5.2.2 d2 hlocks
theorem ty_hd1 (C : Cy p l R s m args meth c E S cc mc ms) {h : Nat} {n : Fin 4} {c0 : Int} {w : AW} (d0 : decode cc h = .ok (.astore_n n, 1)) (hn : (n : Nat) < S.2.1) (d1 : decode cc (h + 1) = .ok (.iconst c0, 1)) (d2 : decode cc (h + 1 + 1) = .ok (.ireturn, 1)) (hq : Q (.inl (some (.int (Int32.ofInt c0)))) w) : Hd p l e R s m args below meth c E S mc ms w0 ad0 Q h w := by
  intro ad H locs ls cells slots q h1 h2 h3 h5 h6 h7 h8
  obtain ⟨hx, hb, -, -, -, -, hr, hlocks, -⟩ := C
  refine lv_astore_n hx hb d0 rfl (lv := []) ⟨h2, h3, fun q hq => by cases hq⟩ hn rfl (fun ls' _ => ?_)
  refine lv_iconst hx hb d1 rfl ?_
  refine vx_ret (W.widen (k := mc) (n := ms) h6 h7 ?_)
  exact W.zret hx hb hr rfl (so_end (r := some (.int (Int32.ofInt c0))) h1 h5 h8 (fun v hv => by cases hv; exact lvv_int _ _) hq) h5.2.2 d2 hlocks
/-- a call whose throws are caught -/
theorem ty_call (C : Cy p l R s m args meth c E S cc mc ms) {pc n i np kc ks fr lo maxL : Nat} {L : AL} {r t : List Value} {w : AW} {b : Nat × Nat} {y : MethodName} {bytes : ByteArray} {ret : Option FieldType} {Q1 : AO → AW → Prop} (hd : decode cc pc = .ok (.invokevirtual n, 3)) (hT : wT w i = 12)
    (hM : MA l E y bytes maxL ret fr lo kc ks (.ref i :: r) w Q1) (hfr : fr + 1 ≤ R.frames) (hlo : 8 + (maxL + 11) + lo ≤ R.locals) (hco : Cond.code y bytes maxL ret ∈ TBL) (hin : Cond.initialized y.cls ∈ TBL) (hli : Cond.methodLink S.1 n y ∈ TBL) (hnm : y.cls ≠ "java/lang/invoke/MethodHandle" ∧ y.cls ≠ "java/lang/invoke/VarHandle" ∧ (parseMethodDescriptor y.desc).map (fun d => d.parameters.length) = some np) (hinst : Cond.instanceMethod y ∈ TBL) (hsel : Cond.selects y.cls y y ∈ TBL) (hcls : y.cls = RX11) (hlen : r.length = np) (hsum : wsum t ≤ 8) (hb1 : kc ≤ b.1) (hb2 : ks ≤ b.2)
    (k1 : ∀ v w1, Q1 (.inl v) w1 → Sm p l e R s m args below meth c E S mc ms w0 ad0 Q (pc + 3) L (v.toList ++ t) w1 (b.1 - kc, b.2 - ks)) (k2 : ∀ Ec w1, Q1 (.inr Ec) w1 → ∃ h, (∀ th, s.vm.findClass Ec = some th → LcOK s e.platform m.cls pc th h c.exceptionTable.toList ∧ ∃ k, s.vm.classes[th]? = some k) ∧ Hd p l e R s m args below meth c E S mc ms w0 ad0 Q h w1) : Sm p l e R s m args below meth c E S mc ms w0 ad0 Q pc L ((Value.ref i :: r).reverse ++ t) w b := by
  intro ad H locs ls cells slots h1 h2 h3 h4 h5 h6 h7 h8
  obtain ⟨hx, hb, hml, hown, hts, hK, hr, hlocks, hbase, hrc, hrs, hst, hKY⟩ := id C
  have has : ∀ v ∈ (Value.ref i :: r), lvv w v := fun v hv => h4 v (List.mem_append_left _ (List.mem_reverse.mpr hv))
  have ht : ∀ v ∈ t, lvv w v := fun v hv => h4 v (List.mem_append_right _ hv)
  have hMet := hM hst ad has
  obtain ⟨cell, q1, q2, q3, -⟩ := (h1.2.2.1 i).1 11 (by decide) hT
  have hrun := vx_runV (p := p) (l := l) (e := e) (R := R) (s := s) (m := m) (args := args) (below := below) (meth := meth) (c := c) (H := H) (locs := locs) (cells := cells) (slots := slots) (Ts := TBL) (C := y.cls) (b := ad.1 i) (As := r.map (cv ad)) (rest := t.map (cv ad)) (g := F0 m pc ls (((Value.ref i :: r).reverse ++ t).map (cv ad))) ⟨hx, hb, hml, hown, hts⟩ hMet ⟨so_pay hts hfr hlo hco hin hli hnm, hts _ hinst, hts _ hsel⟩ ⟨mPc_blind E ad w _, ⟨cell, q1, by rw [q3]; rfl, by rw [hcls, q2]; exact (hK.1 11 (by decide)).2.1⟩, so_pre h1 hK (Nat.le_trans hbase h5.1) hKY h5⟩ rfl (by rw [List.length_map]; exact hlen) h2.1 (by rw [List.map_append, List.map_reverse, List.map_cons, List.reverse_cons, List.append_assoc]; rfl) (lv_room (by rw [wsum_map]; exact hsum)) hd ⟨by rw [hrc]; omega, by rw [hrs]; omega⟩
  intro T hT2 X
  rcases hrun T hT2 X with ⟨v, st₀, t1, T', L1, h0, X', hL, e1, e2, ⟨r1, w1, ad1, hv, hq, hC1, hext, hlv, hF⟩, st⟩ | ⟨q, st₀, t1, T', L1, Ec, ce, h0, X', hL, e1, e2, ⟨w1, ad1, hq, hC1, hext, hF⟩, hce, hcv, hcl, st⟩
  · obtain ⟨-, -, kS⟩ := vx_keep h0 e1 h5 (fun q _ h => h) (fun q h => h) hL hF
    have hsame : ∀ i, wT w i ≠ 0 → ad1.1 i = ad.1 i := fun i hi => (hext i hi).2
    have hmono : ∀ u, lvv w u → lvv w1 u := fun u hu i hi => (hext i (hu i hi)).1
    have kk := k1 r1 w1 hq ad1 T'.heap (locs ++ L1) ls (cells + kc) (slots + ks) (by rw [e1]; exact hC1) ⟨h2.1, h2.2.1, fun j u hj => by rw [cv_same hsame (h3 j u hj)]; exact h2.2.2 j u hj⟩ (fun j u hj => hmono u (h3 j u hj))
      (fun u hu => by
        rcases List.mem_append.mp hu with h | h
        · cases r1 with
          | none => cases h
          | some z => rw [Option.toList_some, List.mem_singleton] at h; subst h; exact hlv _ rfl
        · exact hmono u (ht u h)) kS (by dsimp only; omega) (by dsimp only; omega) (fun i hi => by obtain ⟨a, b⟩ := h8 i hi; obtain ⟨a2, b2⟩ := hext i a; exact ⟨a2, b2.trans b⟩)
    obtain ⟨t2, a1, b1⟩ := kk T' rfl X'
    refine ⟨t2, st t2 ?_, b1⟩
    have ev : v = r1.map (cv ad1) := by cases hv; rfl
    have estk : (r1.toList ++ t).map (cv ad1) = v.toList ++ t.map (cv ad) := by
      rw [List.map_append, ev, List.map_congr_left (fun u hu => cv_same hsame (ht u hu))]
      cases r1 <;> rfl
    rw [estk] at a1
    exact a1
  · obtain ⟨-, -, kS⟩ := vx_keep h0 e1 h5 (fun q _ h => h) (fun q h => h) hL hF
    obtain ⟨hp, hlc, hH⟩ := k2 Ec w1 hq
    obtain ⟨hl1, hl2⟩ := hlc _ hcl
    obtain ⟨vm', XV, go⟩ := lc_catch X' (q := q) (g := F0 m pc ls (t.map (cv ad))) (ce := ce) (h := hp) rfl (by rw [e1]; exact hce) hcv hl2 hl1
    obtain ⟨t2, a1, b1⟩ := hH ad1 T'.heap (locs ++ L1) ls (cells + kc) (slots + ks) q (by rw [e1]; exact hC1) h2.1 h2.2.1 kS (by omega) (by omega) (fun i hi => by obtain ⟨a, b⟩ := h8 i hi; obtain ⟨a2, b2⟩ := hext i a; exact ⟨a2, b2.trans b⟩) (T'.setVm vm') rfl XV
    exact ⟨t2, st.trans (go _ a1), b1⟩
end TY

