section SEM3
variable {p : Program} {l : Launch} {e : Env} {R : Room} {s : State} {m : MethodId} {args : Array Value} {below : List Frame} {meth : Method} {c : Code}
variable {E : AE} {S : MS} {M : MT} {cc : ByteArray} {mc ms : Nat} {w0 : AW} {ad0 : AM} {Q : AO → AW → Prop}
theorem so_special (C : Cx p l R s m args meth c E S cc mc ms) (V : MV l R E S.1 cc M) {pc n i : Nat} {L : AL} {r t : List Value} {w : AW} {b : Nat × Nat} {ci : CI} {Q1 : AO → AW → Prop} (hd : decode cc pc = .ok (.invokespecial n, 3)) (hG : M.2.2.1 n = some ci) (h0 : ci.1 = 100) (hlen : (Value.ref i :: r).length = ci.2.1) (hsum : wsum t ≤ 8) (hb1 : ci.2.2.1 ≤ b.1) (hb2 : ci.2.2.2.1 ≤ b.2) (hsp : ci.2.2.2.2 (.ref i :: r) w Q1)
    (k1 : ∀ v w1, Q1 (.inl v) w1 → Sm p l e R s m args below meth c E S mc ms w0 ad0 Q (pc + 3) L (v.toList ++ t) w1 (b.1 - ci.2.2.1, b.2 - ci.2.2.2.1)) (k2 : ∀ C w1, ¬ Q1 (.inr C) w1) : Sm p l e R s m args below meth c E S mc ms w0 ad0 Q pc L ((Value.ref i :: r).reverse ++ t) w b := by
  intro ad H locs ls cells slots h1 h2 h3 h4 h5 h6 h7 h8
  obtain ⟨hx, hb, hml, hown, hts, hK, hr, hlocks, hbase, hrc, hrs, -, -, hst, hKY⟩ := id C
  obtain ⟨y, bytes, maxL, ret, fr, lo, np, hM, hfr, hlo, hco, hin, hli, hnm, -, -, hsi, -⟩ := (V.2.2.1 n ci hG).2.2.2.2.2.2 (by omega)
  obtain ⟨hyn, hinst, hret, hnn⟩ := hsi (Or.inl h0)
  subst hret
  have has : ∀ v ∈ (Value.ref i :: r), lvv w v := fun v hv => h4 v (List.mem_append_left _ (List.mem_reverse.mpr hv))
  have ht : ∀ v ∈ t, lvv w v := fun v hv => h4 v (List.mem_append_right _ hv)
  have hMet0 := hM (.ref i :: r) w Q1 hsp hst ad has
  have hMet : Met l y (.code y bytes maxL none :: TBL) { frames := fr, cells := ci.2.2.1, slots := ci.2.2.2.1, locals := lo } (mPc E ad w (.ref i :: r)) (mQc E ad w Q1) ci.2.2.1 ci.2.2.2.1 (fun q => E.2.2 ≤ q) := by
    intro p e a1 a2 a3 s m args below a4 a5 a6 a7
    obtain ⟨n, o, b1, b2, b3, b4⟩ := hMet0 p e a1 a2 a3 s m args below a4 a5 a6 a7
    refine ⟨n, o, b1, b2, b3, ?_⟩
    rcases b4 with h | ⟨q, -, Ec, ce, L1, ⟨w1, ad1, hq, -⟩, -⟩
    · exact h
    · exact absurd hq (k2 _ _)
  have hrun := va_runI (Ts := TBL) (b := ad.1 i) (As := r.map (cv ad)) (rest := t.map (cv ad)) (p := p) (l := l) (e := e) (R := R) (below := below) (meth := meth) (locs := locs) (cells := cells) (slots := slots) (g := F0 m pc ls (((Value.ref i :: r).reverse ++ t).map (cv ad))) (H := H) ⟨hx, hb, hml, hown, hts⟩ hMet ⟨so_pay hts hfr hlo hco hin (hli (by omega)) hnm, hyn, hts _ hinst⟩ ⟨mPc_blind E ad w _, so_pre h1 hK (Nat.le_trans hbase h5.1) hKY h5⟩ rfl (by rw [List.length_map]; rw [List.length_cons] at hlen; omega) h2.1 (by rw [List.map_append, List.map_reverse, List.map_cons, List.reverse_cons, List.append_assoc]; rfl) (lv_room (by rw [wsum_map]; exact hsum)) hd ⟨by rw [hrc]; omega, by rw [hrs]; omega⟩
  refine so_run (t := t) (kc := ci.2.2.1) (ks := ci.2.2.2.1) (b := b) (Q1 := Q1) (av := ((Value.ref i :: r).map (cv ad)).toArray) C ?_ k1 (fun C w1 h => absurd h (k2 C w1)) h1 h2 h3 ht h5 h6 h7 h8 hb1 hb2
  intro T hT X
  exact Or.inl (hrun T hT X)
theorem so_aload (C : Cx p l R s m args meth c E S cc mc ms) {pc n : Nat} {L : AL} {r : Option Nat} {t : List Value} {w : AW} {b : Nat × Nat} (hd : decode cc pc = .ok (.aload n, 2)) (hL : L n = some (va_rf r)) (k : Sm p l e R s m args below meth c E S mc ms w0 ad0 Q (pc + 2) L (va_rf r :: t) w b) : Sm p l e R s m args below meth c E S mc ms w0 ad0 Q pc L t w b := by
  intro ad H locs ls cells slots h1 h2 h3 h4 h5 h6 h7 h8
  obtain ⟨hx, hb, -⟩ := C
  have kk := k ad H locs ls cells slots h1 h2 h3 (lcv (h3 _ _ hL) h4) h5 h6 h7 h8
  have hl := h2.2.2 _ _ hL
  cases r with
  | none => exact lv_aloadN hx hb hd hl kk
  | some x => exact lv_aload hx hb hd hl kk
theorem so_aload_n (C : Cx p l R s m args meth c E S cc mc ms) {pc : Nat} {n : Fin 4} {L : AL} {r : Option Nat} {t : List Value} {w : AW} {b : Nat × Nat} (hd : decode cc pc = .ok (.aload_n n, 1)) (hL : L (n : Nat) = some (va_rf r)) (k : Sm p l e R s m args below meth c E S mc ms w0 ad0 Q (pc + 1) L (va_rf r :: t) w b) : Sm p l e R s m args below meth c E S mc ms w0 ad0 Q pc L t w b := by
  intro ad H locs ls cells slots h1 h2 h3 h4 h5 h6 h7 h8
  obtain ⟨hx, hb, -⟩ := C
  have kk := k ad H locs ls cells slots h1 h2 h3 (lcv (h3 _ _ hL) h4) h5 h6 h7 h8
  have hl := h2.2.2 _ _ hL
  cases r with
  | none => exact lv_aload_nN hx hb hd rfl hl kk
  | some x => exact lv_aload_n hx hb hd rfl hl kk
theorem so_istore (C : Cx p l R s m args meth c E S cc mc ms) {pc : Nat} {n : Nat} {L : AL} {x : Int32} {t : List Value} {w : AW} {b : Nat × Nat} (hd : decode cc pc = .ok (.istore n, 2)) (hn : n < S.2.1) (k : Sm p l e R s m args below meth c E S mc ms w0 ad0 Q (pc + 2) (ls1 L n (.int x)) t w b) : Sm p l e R s m args below meth c E S mc ms w0 ad0 Q pc L (.int x :: t) w b := by
  intro ad H locs ls cells slots h1 h2 h3 h4 h5 h6 h7 h8
  obtain ⟨hx, hb, -⟩ := C
  obtain ⟨ls', e', h'⟩ := h2.store1 (v := .int x) hn rfl
  have kk := k ad H locs ls' cells slots h1 h' (lvl1 h3 (lvv_int _ _)) (lt1 h4) h5 h6 h7 h8
  intro T hT X
  obtain ⟨t', a, b'⟩ := kk T hT X
  refine ⟨t', ?_, b'⟩
  have e' : storeLocals ls n (.int x) = some ls' := e'
  show Steps p.tables e below (T.setTop (F0 m pc ls (.int x :: t.map (cv ad)))) t'
  jvm_step X.here [X.here.top, ↓top_set X.here.top, hx, hb, hd, e']
  exact a
theorem so_istore_n (C : Cx p l R s m args meth c E S cc mc ms) {pc : Nat} {n : Fin 4} {L : AL} {x : Int32} {t : List Value} {w : AW} {b : Nat × Nat} (hd : decode cc pc = .ok (.istore_n n, 1)) (hn : (n : Nat) < S.2.1) (k : Sm p l e R s m args below meth c E S mc ms w0 ad0 Q (pc + 1) (ls1 L (n : Nat) (.int x)) t w b) : Sm p l e R s m args below meth c E S mc ms w0 ad0 Q pc L (.int x :: t) w b := by
  intro ad H locs ls cells slots h1 h2 h3 h4 h5 h6 h7 h8
  obtain ⟨hx, hb, -⟩ := C
  obtain ⟨ls', e', h'⟩ := h2.store1 (v := .int x) hn rfl
  have kk := k ad H locs ls' cells slots h1 h' (lvl1 h3 (lvv_int _ _)) (lt1 h4) h5 h6 h7 h8
  intro T hT X
  obtain ⟨t', a, b'⟩ := kk T hT X
  refine ⟨t', ?_, b'⟩
  have e' : storeLocals ls (n : Nat) (.int x) = some ls' := e'
  show Steps p.tables e below (T.setTop (F0 m pc ls (.int x :: t.map (cv ad)))) t'
  jvm_step X.here [X.here.top, ↓top_set X.here.top, hx, hb, hd, e']
  exact a
theorem so_lstore (C : Cx p l R s m args meth c E S cc mc ms) {pc : Nat} {n : Nat} {L : AL} {x : Int64} {t : List Value} {w : AW} {b : Nat × Nat} (hd : decode cc pc = .ok (.lstore n, 2)) (hn : n + 1 < S.2.1) (k : Sm p l e R s m args below meth c E S mc ms w0 ad0 Q (pc + 2) (ls2 L n (.long x)) t w b) : Sm p l e R s m args below meth c E S mc ms w0 ad0 Q pc L (.long x :: t) w b := by
  intro ad H locs ls cells slots h1 h2 h3 h4 h5 h6 h7 h8
  obtain ⟨hx, hb, -⟩ := C
  obtain ⟨ls', e', h'⟩ := h2.store2 (v := .long x) hn rfl
  have kk := k ad H locs ls' cells slots h1 h' (lvl2 h3 (lvv_long _ _)) (lt1 h4) h5 h6 h7 h8
  intro T hT X
  obtain ⟨t', a, b'⟩ := kk T hT X
  refine ⟨t', ?_, b'⟩
  have e' : storeLocals ls n (.long x) = some ls' := e'
  show Steps p.tables e below (T.setTop (F0 m pc ls (.long x :: t.map (cv ad)))) t'
  jvm_step X.here [X.here.top, ↓top_set X.here.top, hx, hb, hd, e']
  exact a
theorem so_lstore_n (C : Cx p l R s m args meth c E S cc mc ms) {pc : Nat} {n : Fin 4} {L : AL} {x : Int64} {t : List Value} {w : AW} {b : Nat × Nat} (hd : decode cc pc = .ok (.lstore_n n, 1)) (hn : (n : Nat) + 1 < S.2.1) (k : Sm p l e R s m args below meth c E S mc ms w0 ad0 Q (pc + 1) (ls2 L (n : Nat) (.long x)) t w b) : Sm p l e R s m args below meth c E S mc ms w0 ad0 Q pc L (.long x :: t) w b := by
  intro ad H locs ls cells slots h1 h2 h3 h4 h5 h6 h7 h8
  obtain ⟨hx, hb, -⟩ := C
  obtain ⟨ls', e', h'⟩ := h2.store2 (v := .long x) hn rfl
  have kk := k ad H locs ls' cells slots h1 h' (lvl2 h3 (lvv_long _ _)) (lt1 h4) h5 h6 h7 h8
  intro T hT X
  obtain ⟨t', a, b'⟩ := kk T hT X
  refine ⟨t', ?_, b'⟩
  have e' : storeLocals ls (n : Nat) (.long x) = some ls' := e'
  show Steps p.tables e below (T.setTop (F0 m pc ls (.long x :: t.map (cv ad)))) t'
  jvm_step X.here [X.here.top, ↓top_set X.here.top, hx, hb, hd, e']
  exact a
theorem so_astore (C : Cx p l R s m args meth c E S cc mc ms) {pc : Nat} {n : Nat} {L : AL} {r : Option Nat} {t : List Value} {w : AW} {b : Nat × Nat} (hd : decode cc pc = .ok (.astore n, 2)) (hn : n < S.2.1) (k : Sm p l e R s m args below meth c E S mc ms w0 ad0 Q (pc + 2) (ls1 L n (va_rf r)) t w b) : Sm p l e R s m args below meth c E S mc ms w0 ad0 Q pc L (va_rf r :: t) w b := by
  intro ad H locs ls cells slots h1 h2 h3 h4 h5 h6 h7 h8
  obtain ⟨hx, hb, -⟩ := C
  obtain ⟨ls', e', h'⟩ := h2.store1 (v := va_rf r) hn (by cases r <;> rfl)
  have kk := k ad H locs ls' cells slots h1 h' (lvl1 h3 (lh1 h4)) (lt1 h4) h5 h6 h7 h8
  intro T hT X
  obtain ⟨t', a, b'⟩ := kk T hT X
  refine ⟨t', ?_, b'⟩
  rw [List.map_cons, cv_rf]
  rw [cv_rf] at e'
  cases r with
  | none =>
    have e' : storeLocals ls n .null = some ls' := e'
    show Steps p.tables e below (T.setTop (F0 m pc ls (.null :: t.map (cv ad)))) t'
    jvm_step X.here [X.here.top, ↓top_set X.here.top, hx, hb, hd, e', Value.isRef]
    exact a
  | some z =>
    have e' : storeLocals ls n (.ref (ad.1 z)) = some ls' := e'
    show Steps p.tables e below (T.setTop (F0 m pc ls (.ref (ad.1 z) :: t.map (cv ad)))) t'
    jvm_step X.here [X.here.top, ↓top_set X.here.top, hx, hb, hd, e', Value.isRef]
    exact a
theorem so_astore_n (C : Cx p l R s m args meth c E S cc mc ms) {pc : Nat} {n : Fin 4} {L : AL} {r : Option Nat} {t : List Value} {w : AW} {b : Nat × Nat} (hd : decode cc pc = .ok (.astore_n n, 1)) (hn : (n : Nat) < S.2.1) (k : Sm p l e R s m args below meth c E S mc ms w0 ad0 Q (pc + 1) (ls1 L (n : Nat) (va_rf r)) t w b) : Sm p l e R s m args below meth c E S mc ms w0 ad0 Q pc L (va_rf r :: t) w b := by
  intro ad H locs ls cells slots h1 h2 h3 h4 h5 h6 h7 h8
  obtain ⟨hx, hb, -⟩ := C
  obtain ⟨ls', e', h'⟩ := h2.store1 (v := va_rf r) hn (by cases r <;> rfl)
  have kk := k ad H locs ls' cells slots h1 h' (lvl1 h3 (lh1 h4)) (lt1 h4) h5 h6 h7 h8
  intro T hT X
  obtain ⟨t', a, b'⟩ := kk T hT X
  refine ⟨t', ?_, b'⟩
  rw [List.map_cons, cv_rf]
  rw [cv_rf] at e'
  cases r with
  | none =>
    have e' : storeLocals ls (n : Nat) .null = some ls' := e'
    show Steps p.tables e below (T.setTop (F0 m pc ls (.null :: t.map (cv ad)))) t'
    jvm_step X.here [X.here.top, ↓top_set X.here.top, hx, hb, hd, e', Value.isRef]
    exact a
  | some z =>
    have e' : storeLocals ls (n : Nat) (.ref (ad.1 z)) = some ls' := e'
    show Steps p.tables e below (T.setTop (F0 m pc ls (.ref (ad.1 z) :: t.map (cv ad)))) t'
    jvm_step X.here [X.here.top, ↓top_set X.here.top, hx, hb, hd, e', Value.isRef]
    exact a
theorem so_iinc (C : Cx p l R s m args meth c E S cc mc ms) {pc n : Nat} {d : Int} {L : AL} {x : Int32} {t : List Value} {w : AW} {b : Nat × Nat} (hd : decode cc pc = .ok (.iinc n d, 3)) (hL : L n = some (.int x)) (hn : n < S.2.1) (k : Sm p l e R s m args below meth c E S mc ms w0 ad0 Q (pc + 3) (ls1 L n (.int (x + Int32.ofInt d))) t w b) : Sm p l e R s m args below meth c E S mc ms w0 ad0 Q pc L t w b := by
  intro ad H locs ls cells slots h1 h2 h3 h4 h5 h6 h7 h8
  obtain ⟨hx, hb, -⟩ := C
  obtain ⟨ls', e', h'⟩ := h2.store1 (v := .int (x + Int32.ofInt d)) hn rfl
  have kk := k ad H locs ls' cells slots h1 h' (lvl1 h3 (lvv_int _ _)) h4 h5 h6 h7 h8
  have hg : ls[n]? = some (.val (.int x)) := h2.2.2 _ _ hL
  have e' : storeLocals ls n (.int (x + Int32.ofInt d)) = some ls' := e'
  intro T hT X
  obtain ⟨t', a, b'⟩ := kk T hT X
  refine ⟨t', ?_, b'⟩
  jvm_step X.here [X.here.top, ↓top_set X.here.top, hx, hb, hd, hg, e']
  exact a
theorem so_acmp_eq (C : Cx p l R s m args meth c E S cc mc ms) {pc g : Nat} {d : Int} {L : AL} {x y : Option Nat} {t : List Value} {w : AW} {b : Nat × Nat} (hd : decode cc pc = .ok (.if_acmp .eq d, 3)) (hg : (pc : Int) + d = (g : Int)) (hac : acOK w x y) (kt : x = y → Sm p l e R s m args below meth c E S mc ms w0 ad0 Q g L t w b) (kf : ¬ x = y → Sm p l e R s m args below meth c E S mc ms w0 ad0 Q (pc + 3) L t w b) : Sm p l e R s m args below meth c E S mc ms w0 ad0 Q pc L (va_rf y :: va_rf x :: t) w b := by
  intro ad H locs ls cells slots h1 h2 h3 h4 h5 h6 h7 h8
  obtain ⟨hx, hb, -, -, -, -, -, -, -, -, -, -, -, -, hKY⟩ := C
  rw [List.map_cons, List.map_cons, cv_rf, cv_rf]
  have hi := rf_inj h1 hKY (lh1 (lt1 h4)) (lh1 h4) hac
  exact lv_acmp_eq hx hb hd hg (fun q => kt (hi.mp q) ad H locs ls cells slots h1 h2 h3 (lt1 (lt1 h4)) h5 h6 h7 h8) (fun q => kf (fun z => q (hi.mpr z)) ad H locs ls cells slots h1 h2 h3 (lt1 (lt1 h4)) h5 h6 h7 h8)
theorem so_acmp_ne (C : Cx p l R s m args meth c E S cc mc ms) {pc g : Nat} {d : Int} {L : AL} {x y : Option Nat} {t : List Value} {w : AW} {b : Nat × Nat} (hd : decode cc pc = .ok (.if_acmp .ne d, 3)) (hg : (pc : Int) + d = (g : Int)) (hac : acOK w x y) (kt : ¬ x = y → Sm p l e R s m args below meth c E S mc ms w0 ad0 Q g L t w b) (kf : x = y → Sm p l e R s m args below meth c E S mc ms w0 ad0 Q (pc + 3) L t w b) : Sm p l e R s m args below meth c E S mc ms w0 ad0 Q pc L (va_rf y :: va_rf x :: t) w b := by
  intro ad H locs ls cells slots h1 h2 h3 h4 h5 h6 h7 h8
  obtain ⟨hx, hb, -, -, -, -, -, -, -, -, -, -, -, -, hKY⟩ := C
  rw [List.map_cons, List.map_cons, cv_rf, cv_rf]
  have hi := rf_inj h1 hKY (lh1 (lt1 h4)) (lh1 h4) hac
  exact lv_acmp_ne hx hb hd hg (fun q => kt (fun z => q (hi.mpr z)) ad H locs ls cells slots h1 h2 h3 (lt1 (lt1 h4)) h5 h6 h7 h8) (fun q => kf (hi.mp q) ad H locs ls cells slots h1 h2 h3 (lt1 (lt1 h4)) h5 h6 h7 h8)
theorem so_ifnull (C : Cx p l R s m args meth c E S cc mc ms) {pc g : Nat} {d : Int} {L : AL} {x : Option Nat} {t : List Value} {w : AW} {b : Nat × Nat} (hd : decode cc pc = .ok (.ifnull d, 3)) (hg : (pc : Int) + d = (g : Int)) (kt : x = none → Sm p l e R s m args below meth c E S mc ms w0 ad0 Q g L t w b) (kf : ¬ x = none → Sm p l e R s m args below meth c E S mc ms w0 ad0 Q (pc + 3) L t w b) : Sm p l e R s m args below meth c E S mc ms w0 ad0 Q pc L (va_rf x :: t) w b := by
  intro ad H locs ls cells slots h1 h2 h3 h4 h5 h6 h7 h8
  obtain ⟨hx, hb, -⟩ := C
  cases x with
  | none => exact lv_ifnullN hx hb hd hg (kt rfl ad H locs ls cells slots h1 h2 h3 (lt1 h4) h5 h6 h7 h8)
  | some z => exact lv_ifnull hx hb hd (kf (fun q => by cases q) ad H locs ls cells slots h1 h2 h3 (lt1 h4) h5 h6 h7 h8)
theorem so_ifnonnull (C : Cx p l R s m args meth c E S cc mc ms) {pc g : Nat} {d : Int} {L : AL} {x : Option Nat} {t : List Value} {w : AW} {b : Nat × Nat} (hd : decode cc pc = .ok (.ifnonnull d, 3)) (hg : (pc : Int) + d = (g : Int)) (kt : ¬ x = none → Sm p l e R s m args below meth c E S mc ms w0 ad0 Q g L t w b) (kf : x = none → Sm p l e R s m args below meth c E S mc ms w0 ad0 Q (pc + 3) L t w b) : Sm p l e R s m args below meth c E S mc ms w0 ad0 Q pc L (va_rf x :: t) w b := by
  intro ad H locs ls cells slots h1 h2 h3 h4 h5 h6 h7 h8
  obtain ⟨hx, hb, -⟩ := C
  cases x with
  | none => exact lv_ifnonnullN hx hb hd (kf rfl ad H locs ls cells slots h1 h2 h3 (lt1 h4) h5 h6 h7 h8)
  | some z => exact lv_ifnonnull hx hb hd hg (kt (fun q => by cases q) ad H locs ls cells slots h1 h2 h3 (lt1 h4) h5 h6 h7 h8)
theorem wpS_ok (C : Cx p l R s m args meth c E S cc mc ms) (V : MV l R E S.1 cc M) {K : XP} (hK : ∀ pc L st w b, K pc L st w b → Sm p l e R s m args below meth c E S mc ms w0 ad0 Q pc L st w b) {i : Instr} {len pc : Nat} {L : AL} {st : List Value} {w : AW} {b : Nat × Nat} (hP : M.1 pc = some (i, len)) (hlt : len < 10000) (h : wpS S M Q i len K pc L st w b) : Sm p l e R s m args below meth c E S mc ms w0 ad0 Q pc L st w b := by
  have hd := V.1 pc i len hP
  rw [Nat.mod_eq_of_lt hlt] at hd
  obtain ⟨hx, hb, hml, hown, hts, -⟩ := id C
  cases i with
  | aconst_null =>
    obtain ⟨rfl, hk⟩ := h
    intro ad H locs ls cells slots h1 h2 h3 h4 h5 h6 h7 h8
    exact lv_null hx hb hd (hK _ _ _ _ _ hk ad H locs ls cells slots h1 h2 h3 (lcv (lvv_null _) h4) h5 h6 h7 h8)
  | iconst n =>
    obtain ⟨rfl, hk⟩ := h
    intro ad H locs ls cells slots h1 h2 h3 h4 h5 h6 h7 h8
    exact lv_iconst hx hb hd rfl (hK _ _ _ _ _ hk ad H locs ls cells slots h1 h2 h3 (lcv (lvv_int _ _) h4) h5 h6 h7 h8)
  | bipush n =>
    obtain ⟨rfl, hk⟩ := h
    intro ad H locs ls cells slots h1 h2 h3 h4 h5 h6 h7 h8
    exact lv_bipush hx hb hd rfl (hK _ _ _ _ _ hk ad H locs ls cells slots h1 h2 h3 (lcv (lvv_int _ _) h4) h5 h6 h7 h8)
  | sipush n =>
    obtain ⟨rfl, hk⟩ := h
    intro ad H locs ls cells slots h1 h2 h3 h4 h5 h6 h7 h8
    exact lv_sipush hx hb hd rfl (hK _ _ _ _ _ hk ad H locs ls cells slots h1 h2 h3 (lcv (lvv_int _ _) h4) h5 h6 h7 h8)
  | lconst n =>
    obtain ⟨rfl, hk⟩ := h
    intro ad H locs ls cells slots h1 h2 h3 h4 h5 h6 h7 h8
    exact lv_lconst hx hb hd rfl (hK _ _ _ _ _ hk ad H locs ls cells slots h1 h2 h3 (lcv (lvv_long _ _) h4) h5 h6 h7 h8)
  | iload n =>
    obtain ⟨rfl, x, hL, hk⟩ := h
    intro ad H locs ls cells slots h1 h2 h3 h4 h5 h6 h7 h8
    exact lv_iload hx hb hd (h2.2.2 _ _ hL) (hK _ _ _ _ _ hk ad H locs ls cells slots h1 h2 h3 (lcv (lvv_int _ _) h4) h5 h6 h7 h8)
  | iload_n n =>
    obtain ⟨rfl, x, hL, hk⟩ := h
    intro ad H locs ls cells slots h1 h2 h3 h4 h5 h6 h7 h8
    exact lv_iload_n hx hb hd rfl (h2.2.2 _ _ hL) (hK _ _ _ _ _ hk ad H locs ls cells slots h1 h2 h3 (lcv (lvv_int _ _) h4) h5 h6 h7 h8)
  | lload n =>
    obtain ⟨rfl, x, hL, hk⟩ := h
    intro ad H locs ls cells slots h1 h2 h3 h4 h5 h6 h7 h8
    exact lv_lload hx hb hd (h2.2.2 _ _ hL) (hK _ _ _ _ _ hk ad H locs ls cells slots h1 h2 h3 (lcv (lvv_long _ _) h4) h5 h6 h7 h8)
  | lload_n n =>
    obtain ⟨rfl, x, hL, hk⟩ := h
    intro ad H locs ls cells slots h1 h2 h3 h4 h5 h6 h7 h8
    exact lv_lload_n hx hb hd rfl (h2.2.2 _ _ hL) (hK _ _ _ _ _ hk ad H locs ls cells slots h1 h2 h3 (lcv (lvv_long _ _) h4) h5 h6 h7 h8)
  | aload n =>
    obtain ⟨rfl, r, hL, hk⟩ := h
    exact so_aload C hd hL (hK _ _ _ _ _ hk)
  | aload_n n =>
    obtain ⟨rfl, r, hL, hk⟩ := h
    exact so_aload_n C hd hL (hK _ _ _ _ _ hk)
  | istore n =>
    obtain ⟨rfl, x, t, rfl, hn, hk⟩ := h
    exact so_istore C hd hn (hK _ _ _ _ _ hk)
  | istore_n n =>
    obtain ⟨rfl, x, t, rfl, hn, hk⟩ := h
    exact so_istore_n C hd hn (hK _ _ _ _ _ hk)
  | lstore n =>
    obtain ⟨rfl, x, t, rfl, hn, hk⟩ := h
    exact so_lstore C hd hn (hK _ _ _ _ _ hk)
  | lstore_n n =>
    obtain ⟨rfl, x, t, rfl, hn, hk⟩ := h
    exact so_lstore_n C hd hn (hK _ _ _ _ _ hk)
  | astore n =>
    obtain ⟨rfl, x, t, rfl, hn, hk⟩ := h
    exact so_astore C hd hn (hK _ _ _ _ _ hk)
  | astore_n n =>
    obtain ⟨rfl, x, t, rfl, hn, hk⟩ := h
    exact so_astore_n C hd hn (hK _ _ _ _ _ hk)
  | iinc n d =>
    obtain ⟨rfl, x, hL, hn, hk⟩ := h
    exact so_iinc C hd hL hn (hK _ _ _ _ _ hk)
  | iadd =>
    obtain ⟨rfl, x, y, t, rfl, hk⟩ := h
    intro ad H locs ls cells slots h1 h2 h3 h4 h5 h6 h7 h8
    exact lv_iadd hx hb hd (hK _ _ _ _ _ hk ad H locs ls cells slots h1 h2 h3 (lcv (lvv_int _ _) (lt1 (lt1 h4))) h5 h6 h7 h8)
  | isub =>
    obtain ⟨rfl, x, y, t, rfl, hk⟩ := h
    intro ad H locs ls cells slots h1 h2 h3 h4 h5 h6 h7 h8
    exact lv_isub hx hb hd (hK _ _ _ _ _ hk ad H locs ls cells slots h1 h2 h3 (lcv (lvv_int _ _) (lt1 (lt1 h4))) h5 h6 h7 h8)
  | imul =>
    obtain ⟨rfl, x, y, t, rfl, hk⟩ := h
    intro ad H locs ls cells slots h1 h2 h3 h4 h5 h6 h7 h8
    exact lv_imul hx hb hd (hK _ _ _ _ _ hk ad H locs ls cells slots h1 h2 h3 (lcv (lvv_int _ _) (lt1 (lt1 h4))) h5 h6 h7 h8)
  | iand =>
    obtain ⟨rfl, x, y, t, rfl, hk⟩ := h
    intro ad H locs ls cells slots h1 h2 h3 h4 h5 h6 h7 h8
    exact lv_iand hx hb hd (hK _ _ _ _ _ hk ad H locs ls cells slots h1 h2 h3 (lcv (lvv_int _ _) (lt1 (lt1 h4))) h5 h6 h7 h8)
  | ior =>
    obtain ⟨rfl, x, y, t, rfl, hk⟩ := h
    intro ad H locs ls cells slots h1 h2 h3 h4 h5 h6 h7 h8
    exact lv_ior hx hb hd (hK _ _ _ _ _ hk ad H locs ls cells slots h1 h2 h3 (lcv (lvv_int _ _) (lt1 (lt1 h4))) h5 h6 h7 h8)
  | ixor =>
    obtain ⟨rfl, x, y, t, rfl, hk⟩ := h
    intro ad H locs ls cells slots h1 h2 h3 h4 h5 h6 h7 h8
    exact lv_ixor hx hb hd (hK _ _ _ _ _ hk ad H locs ls cells slots h1 h2 h3 (lcv (lvv_int _ _) (lt1 (lt1 h4))) h5 h6 h7 h8)
  | ishl =>
    obtain ⟨rfl, x, y, t, rfl, hk⟩ := h
    intro ad H locs ls cells slots h1 h2 h3 h4 h5 h6 h7 h8
    exact lv_ishl hx hb hd (hK _ _ _ _ _ hk ad H locs ls cells slots h1 h2 h3 (lcv (lvv_int _ _) (lt1 (lt1 h4))) h5 h6 h7 h8)
  | ishr =>
    obtain ⟨rfl, x, y, t, rfl, hk⟩ := h
    intro ad H locs ls cells slots h1 h2 h3 h4 h5 h6 h7 h8
    exact lv_ishr hx hb hd (hK _ _ _ _ _ hk ad H locs ls cells slots h1 h2 h3 (lcv (lvv_int _ _) (lt1 (lt1 h4))) h5 h6 h7 h8)
  | iushr =>
    obtain ⟨rfl, x, y, t, rfl, hk⟩ := h
    intro ad H locs ls cells slots h1 h2 h3 h4 h5 h6 h7 h8
    exact lv_iushr hx hb hd rfl (hK _ _ _ _ _ hk ad H locs ls cells slots h1 h2 h3 (lcv (lvv_int _ _) (lt1 (lt1 h4))) h5 h6 h7 h8)
  | idiv =>
    obtain ⟨rfl, x, y, t, rfl, hy, hk⟩ := h
    intro ad H locs ls cells slots h1 h2 h3 h4 h5 h6 h7 h8
    exact lv_idiv hx hb hd hy (hK _ _ _ _ _ hk ad H locs ls cells slots h1 h2 h3 (lcv (lvv_int _ _) (lt1 (lt1 h4))) h5 h6 h7 h8)
  | irem =>
    obtain ⟨rfl, x, y, t, rfl, hy, hk⟩ := h
    intro ad H locs ls cells slots h1 h2 h3 h4 h5 h6 h7 h8
    exact lv_irem hx hb hd hy (hK _ _ _ _ _ hk ad H locs ls cells slots h1 h2 h3 (lcv (lvv_int _ _) (lt1 (lt1 h4))) h5 h6 h7 h8)
  | ineg =>
    obtain ⟨rfl, x, t, rfl, hk⟩ := h
    intro ad H locs ls cells slots h1 h2 h3 h4 h5 h6 h7 h8
    exact lv_ineg hx hb hd (hK _ _ _ _ _ hk ad H locs ls cells slots h1 h2 h3 (lcv (lvv_int _ _) (lt1 h4)) h5 h6 h7 h8)
  | ladd =>
    obtain ⟨rfl, x, y, t, rfl, hk⟩ := h
    intro ad H locs ls cells slots h1 h2 h3 h4 h5 h6 h7 h8
    exact lv_ladd hx hb hd (hK _ _ _ _ _ hk ad H locs ls cells slots h1 h2 h3 (lcv (lvv_long _ _) (lt1 (lt1 h4))) h5 h6 h7 h8)
  | lsub =>
    obtain ⟨rfl, x, y, t, rfl, hk⟩ := h
    intro ad H locs ls cells slots h1 h2 h3 h4 h5 h6 h7 h8
    exact lv_lsub hx hb hd (hK _ _ _ _ _ hk ad H locs ls cells slots h1 h2 h3 (lcv (lvv_long _ _) (lt1 (lt1 h4))) h5 h6 h7 h8)
  | lor =>
    obtain ⟨rfl, x, y, t, rfl, hk⟩ := h
    intro ad H locs ls cells slots h1 h2 h3 h4 h5 h6 h7 h8
    exact lv_lor hx hb hd (hK _ _ _ _ _ hk ad H locs ls cells slots h1 h2 h3 (lcv (lvv_long _ _) (lt1 (lt1 h4))) h5 h6 h7 h8)
  | land =>
    obtain ⟨rfl, x, y, t, rfl, hk⟩ := h
    intro ad H locs ls cells slots h1 h2 h3 h4 h5 h6 h7 h8
    exact lv_land hx hb hd (hK _ _ _ _ _ hk ad H locs ls cells slots h1 h2 h3 (lcv (lvv_long _ _) (lt1 (lt1 h4))) h5 h6 h7 h8)
  | lneg =>
    obtain ⟨rfl, x, t, rfl, hk⟩ := h
    intro ad H locs ls cells slots h1 h2 h3 h4 h5 h6 h7 h8
    exact lv_lneg hx hb hd (hK _ _ _ _ _ hk ad H locs ls cells slots h1 h2 h3 (lcv (lvv_long _ _) (lt1 h4)) h5 h6 h7 h8)
  | lshl =>
    obtain ⟨rfl, x, y, t, rfl, hk⟩ := h
    intro ad H locs ls cells slots h1 h2 h3 h4 h5 h6 h7 h8
    exact lv_lshl hx hb hd rfl (hK _ _ _ _ _ hk ad H locs ls cells slots h1 h2 h3 (lcv (lvv_long _ _) (lt1 (lt1 h4))) h5 h6 h7 h8)
  | lshr =>
    obtain ⟨rfl, x, y, t, rfl, hk⟩ := h
    intro ad H locs ls cells slots h1 h2 h3 h4 h5 h6 h7 h8
    exact lv_lshr hx hb hd rfl (hK _ _ _ _ _ hk ad H locs ls cells slots h1 h2 h3 (lcv (lvv_long _ _) (lt1 (lt1 h4))) h5 h6 h7 h8)
  | lcmp =>
    obtain ⟨rfl, x, y, t, rfl, hk⟩ := h
    intro ad H locs ls cells slots h1 h2 h3 h4 h5 h6 h7 h8
    exact W.lcmp hx hb hd (hK _ _ _ _ _ hk ad H locs ls cells slots h1 h2 h3 (lcv (lvv_int _ _) (lt1 (lt1 h4))) h5 h6 h7 h8)
  | i2l =>
    obtain ⟨rfl, x, t, rfl, hk⟩ := h
    intro ad H locs ls cells slots h1 h2 h3 h4 h5 h6 h7 h8
    exact lv_i2l hx hb hd rfl (hK _ _ _ _ _ hk ad H locs ls cells slots h1 h2 h3 (lcv (lvv_long _ _) (lt1 h4)) h5 h6 h7 h8)
  | l2i =>
    obtain ⟨rfl, x, t, rfl, hk⟩ := h
    intro ad H locs ls cells slots h1 h2 h3 h4 h5 h6 h7 h8
    exact lv_l2i hx hb hd rfl (hK _ _ _ _ _ hk ad H locs ls cells slots h1 h2 h3 (lcv (lvv_int _ _) (lt1 h4)) h5 h6 h7 h8)
  | i2b =>
    obtain ⟨rfl, x, t, rfl, hk⟩ := h
    intro ad H locs ls cells slots h1 h2 h3 h4 h5 h6 h7 h8
    exact lv_i2b hx hb hd rfl (hK _ _ _ _ _ hk ad H locs ls cells slots h1 h2 h3 (lcv (lvv_int _ _) (lt1 h4)) h5 h6 h7 h8)
  | i2c =>
    obtain ⟨rfl, x, t, rfl, hk⟩ := h
    intro ad H locs ls cells slots h1 h2 h3 h4 h5 h6 h7 h8
    exact lv_i2c hx hb hd rfl (hK _ _ _ _ _ hk ad H locs ls cells slots h1 h2 h3 (lcv (lvv_int _ _) (lt1 h4)) h5 h6 h7 h8)
  | dup =>
    obtain ⟨rfl, v, t, rfl, hv, hk⟩ := h
    intro ad H locs ls cells slots h1 h2 h3 h4 h5 h6 h7 h8
    exact lv_dup hx hb hd (by rw [cv_cat]; exact hv) (hK _ _ _ _ _ hk ad H locs ls cells slots h1 h2 h3 (lcv (lh1 h4) h4) h5 h6 h7 h8)
  | pop =>
    obtain ⟨rfl, v, t, rfl, hv, hk⟩ := h
    intro ad H locs ls cells slots h1 h2 h3 h4 h5 h6 h7 h8
    exact lv_pop hx hb hd (by rw [cv_cat]; exact hv) (hK _ _ _ _ _ hk ad H locs ls cells slots h1 h2 h3 (lt1 h4) h5 h6 h7 h8)
  | dup2 =>
    obtain ⟨rfl, u, v, t, rfl, hu, hv, hk⟩ := h
    intro ad H locs ls cells slots h1 h2 h3 h4 h5 h6 h7 h8
    exact lv_dup2_11 hx hb hd (by rw [cv_cat]; exact hu) (by rw [cv_cat]; exact hv) (hK _ _ _ _ _ hk ad H locs ls cells slots h1 h2 h3 (lcv (lh1 h4) (lcv (lh1 (lt1 h4)) h4)) h5 h6 h7 h8)
  | dup_x1 =>
    obtain ⟨rfl, u, v, t, rfl, hu, hv, hk⟩ := h
    intro ad H locs ls cells slots h1 h2 h3 h4 h5 h6 h7 h8
    exact lv_dup_x1 hx hb hd (by rw [cv_cat]; exact hu) (by rw [cv_cat]; exact hv) (hK _ _ _ _ _ hk ad H locs ls cells slots h1 h2 h3 (lcv (lh1 h4) (lcv (lh1 (lt1 h4)) (lcv (lh1 h4) (lt1 (lt1 h4))))) h5 h6 h7 h8)
  | goto d =>
    obtain ⟨rfl, g, hg, hk⟩ := h
    intro ad H locs ls cells slots h1 h2 h3 h4 h5 h6 h7 h8
    exact lv_goto hx hb hd hg (hK _ _ _ _ _ hk ad H locs ls cells slots h1 h2 h3 h4 h5 h6 h7 h8)
  | if_icmp q d =>
    cases q with
    | eq =>
      obtain ⟨rfl, g, x, y, t, hg, rfl, ha, hb'⟩ := h
      intro ad H locs ls cells slots h1 h2 h3 h4 h5 h6 h7 h8
      exact lv_icmp_eq hx hb hd hg (fun q => hK _ _ _ _ _ (ha q) ad H locs ls cells slots h1 h2 h3 (lt1 (lt1 h4)) h5 h6 h7 h8) (fun q => hK _ _ _ _ _ (hb' q) ad H locs ls cells slots h1 h2 h3 (lt1 (lt1 h4)) h5 h6 h7 h8)
    | ne =>
      obtain ⟨rfl, g, x, y, t, hg, rfl, ha, hb'⟩ := h
      intro ad H locs ls cells slots h1 h2 h3 h4 h5 h6 h7 h8
      exact lv_icmp_ne hx hb hd hg (fun q => hK _ _ _ _ _ (ha q) ad H locs ls cells slots h1 h2 h3 (lt1 (lt1 h4)) h5 h6 h7 h8) (fun q => hK _ _ _ _ _ (hb' q) ad H locs ls cells slots h1 h2 h3 (lt1 (lt1 h4)) h5 h6 h7 h8)
    | lt =>
      obtain ⟨rfl, g, x, y, t, hg, rfl, ha, hb'⟩ := h
      intro ad H locs ls cells slots h1 h2 h3 h4 h5 h6 h7 h8
      exact lv_icmp_lt hx hb hd hg (fun q => hK _ _ _ _ _ (ha q) ad H locs ls cells slots h1 h2 h3 (lt1 (lt1 h4)) h5 h6 h7 h8) (fun q => hK _ _ _ _ _ (hb' q) ad H locs ls cells slots h1 h2 h3 (lt1 (lt1 h4)) h5 h6 h7 h8)
    | ge =>
      obtain ⟨rfl, g, x, y, t, hg, rfl, ha, hb'⟩ := h
      intro ad H locs ls cells slots h1 h2 h3 h4 h5 h6 h7 h8
      exact lv_icmp_ge hx hb hd hg (fun q => hK _ _ _ _ _ (ha q) ad H locs ls cells slots h1 h2 h3 (lt1 (lt1 h4)) h5 h6 h7 h8) (fun q => hK _ _ _ _ _ (hb' q) ad H locs ls cells slots h1 h2 h3 (lt1 (lt1 h4)) h5 h6 h7 h8)
    | gt =>
      obtain ⟨rfl, g, x, y, t, hg, rfl, ha, hb'⟩ := h
      intro ad H locs ls cells slots h1 h2 h3 h4 h5 h6 h7 h8
      exact lv_icmp_gt hx hb hd hg (fun q => hK _ _ _ _ _ (ha q) ad H locs ls cells slots h1 h2 h3 (lt1 (lt1 h4)) h5 h6 h7 h8) (fun q => hK _ _ _ _ _ (hb' q) ad H locs ls cells slots h1 h2 h3 (lt1 (lt1 h4)) h5 h6 h7 h8)
    | le =>
      obtain ⟨rfl, g, x, y, t, hg, rfl, ha, hb'⟩ := h
      intro ad H locs ls cells slots h1 h2 h3 h4 h5 h6 h7 h8
      exact lv_icmp_le hx hb hd hg (fun q => hK _ _ _ _ _ (ha q) ad H locs ls cells slots h1 h2 h3 (lt1 (lt1 h4)) h5 h6 h7 h8) (fun q => hK _ _ _ _ _ (hb' q) ad H locs ls cells slots h1 h2 h3 (lt1 (lt1 h4)) h5 h6 h7 h8)
  | ifCond q d =>
    cases q with
    | eq =>
      obtain ⟨rfl, g, x, t, hg, rfl, ha, hb'⟩ := h
      intro ad H locs ls cells slots h1 h2 h3 h4 h5 h6 h7 h8
      exact lv_if_eq hx hb hd hg (fun q => hK _ _ _ _ _ (ha q) ad H locs ls cells slots h1 h2 h3 (lt1 h4) h5 h6 h7 h8) (fun q => hK _ _ _ _ _ (hb' q) ad H locs ls cells slots h1 h2 h3 (lt1 h4) h5 h6 h7 h8)
    | ne =>
      obtain ⟨rfl, g, x, t, hg, rfl, ha, hb'⟩ := h
      intro ad H locs ls cells slots h1 h2 h3 h4 h5 h6 h7 h8
      exact lv_if_ne hx hb hd hg (fun q => hK _ _ _ _ _ (ha q) ad H locs ls cells slots h1 h2 h3 (lt1 h4) h5 h6 h7 h8) (fun q => hK _ _ _ _ _ (hb' q) ad H locs ls cells slots h1 h2 h3 (lt1 h4) h5 h6 h7 h8)
    | lt =>
      obtain ⟨rfl, g, x, t, hg, rfl, ha, hb'⟩ := h
      intro ad H locs ls cells slots h1 h2 h3 h4 h5 h6 h7 h8
      exact lv_if_lt hx hb hd hg (fun q => hK _ _ _ _ _ (ha q) ad H locs ls cells slots h1 h2 h3 (lt1 h4) h5 h6 h7 h8) (fun q => hK _ _ _ _ _ (hb' q) ad H locs ls cells slots h1 h2 h3 (lt1 h4) h5 h6 h7 h8)
    | ge =>
      obtain ⟨rfl, g, x, t, hg, rfl, ha, hb'⟩ := h
      intro ad H locs ls cells slots h1 h2 h3 h4 h5 h6 h7 h8
      exact lv_if_ge hx hb hd hg (fun q => hK _ _ _ _ _ (ha q) ad H locs ls cells slots h1 h2 h3 (lt1 h4) h5 h6 h7 h8) (fun q => hK _ _ _ _ _ (hb' q) ad H locs ls cells slots h1 h2 h3 (lt1 h4) h5 h6 h7 h8)
    | gt =>
      obtain ⟨rfl, g, x, t, hg, rfl, ha, hb'⟩ := h
      intro ad H locs ls cells slots h1 h2 h3 h4 h5 h6 h7 h8
      exact lv_if_gt hx hb hd hg (fun q => hK _ _ _ _ _ (ha q) ad H locs ls cells slots h1 h2 h3 (lt1 h4) h5 h6 h7 h8) (fun q => hK _ _ _ _ _ (hb' q) ad H locs ls cells slots h1 h2 h3 (lt1 h4) h5 h6 h7 h8)
    | le =>
      obtain ⟨rfl, g, x, t, hg, rfl, ha, hb'⟩ := h
      intro ad H locs ls cells slots h1 h2 h3 h4 h5 h6 h7 h8
      exact lv_if_le hx hb hd hg (fun q => hK _ _ _ _ _ (ha q) ad H locs ls cells slots h1 h2 h3 (lt1 h4) h5 h6 h7 h8) (fun q => hK _ _ _ _ _ (hb' q) ad H locs ls cells slots h1 h2 h3 (lt1 h4) h5 h6 h7 h8)
  | if_acmp q d =>
    cases q with
    | eq =>
      obtain ⟨rfl, g, x, y, t, hg, rfl, hac, ha, hb'⟩ := h
      exact so_acmp_eq C hd hg hac (fun q => hK _ _ _ _ _ (ha q)) (fun q => hK _ _ _ _ _ (hb' q))
    | ne =>
      obtain ⟨rfl, g, x, y, t, hg, rfl, hac, ha, hb'⟩ := h
      exact so_acmp_ne C hd hg hac (fun q => hK _ _ _ _ _ (ha q)) (fun q => hK _ _ _ _ _ (hb' q))
  | ifnull d =>
    obtain ⟨rfl, g, x, t, hg, rfl, ha, hb'⟩ := h
    exact so_ifnull C hd hg (fun q => hK _ _ _ _ _ (ha q)) (fun q => hK _ _ _ _ _ (hb' q))
  | ifnonnull d =>
    obtain ⟨rfl, g, x, t, hg, rfl, ha, hb'⟩ := h
    exact so_ifnonnull C hd hg (fun q => hK _ _ _ _ _ (ha q)) (fun q => hK _ _ _ _ _ (hb' q))
  | tableswitch df lo hi offs =>
    obtain ⟨x, t, rfl, ha, hb'⟩ := h
    intro ad H locs ls cells slots h1 h2 h3 h4 h5 h6 h7 h8
    by_cases q : x.toInt < lo ∨ hi < x.toInt
    · obtain ⟨g, hg, hk⟩ := ha q
      exact lv_tableOut hx hb hd q hg (hK _ _ _ _ _ hk ad H locs ls cells slots h1 h2 h3 (lt1 h4) h5 h6 h7 h8)
    · obtain ⟨of, g, ho, hg, hk⟩ := hb' (fun z => q (Or.inl z)) (fun z => q (Or.inr z))
      exact lv_tableIn hx hb hd (fun z => q (Or.inl z)) (fun z => q (Or.inr z)) ho hg (hK _ _ _ _ _ hk ad H locs ls cells slots h1 h2 h3 (lt1 h4) h5 h6 h7 h8)
  | ldc n =>
    obtain ⟨rfl, v, hv, hk⟩ := h
    intro ad H locs ls cells slots h1 h2 h3 h4 h5 h6 h7 h8
    exact lv_ldc hx hb hown (hts _ (V.2.2.2.1 _ _ hv)) hd (hK _ _ _ _ _ hk ad H locs ls cells slots h1 h2 h3 (lcv (lvv_int _ _) h4) h5 h6 h7 h8)
  | ldc_w n =>
    obtain ⟨rfl, v, hv, hk⟩ := h
    intro ad H locs ls cells slots h1 h2 h3 h4 h5 h6 h7 h8
    exact lv_ldcw hx hb hown (hts _ (V.2.2.2.1 _ _ hv)) hd (hK _ _ _ _ _ hk ad H locs ls cells slots h1 h2 h3 (lcv (lvv_int _ _) h4) h5 h6 h7 h8)
  | ldc2_w n =>
    obtain ⟨rfl, v, hv, hk⟩ := h
    intro ad H locs ls cells slots h1 h2 h3 h4 h5 h6 h7 h8
    exact lv_ldc2 hx hb hown (hts _ (V.2.2.2.2.1 _ _ hv)) hd (hK _ _ _ _ _ hk ad H locs ls cells slots h1 h2 h3 (lcv (lvv_long _ _) h4) h5 h6 h7 h8)
  | getfield n =>
    obtain ⟨rfl, c0, k, i, t, hf, hc13, rfl, hT, hk⟩ := h
    exact so_getfield C hd ⟨hc13, (V.2.1 _ _ _ hf).1 hc13⟩ hT (hK _ _ _ _ _ hk)
  | putfield n =>
    obtain ⟨rfl, c0, k, i, v, t, hf, hc13, rfl, hT, hfin, h⟩ := h
    rcases h with ⟨hr, r, rfl, hk⟩ | ⟨hr, x, rfl, hk⟩
    · exact so_putR C hd ⟨hc13, (V.2.1 _ _ _ hf).1 hc13⟩ hT hfin hr (hK _ _ _ _ _ hk)
    · exact so_putI C hd ⟨hc13, (V.2.1 _ _ _ hf).1 hc13⟩ hT hfin hr (hK _ _ _ _ _ hk)
  | arraylength =>
    obtain ⟨rfl, i, t, rfl, hT, hk⟩ := h
    exact so_arraylength C hd hT (hK _ _ _ _ _ hk)
  | iaload =>
    obtain ⟨rfl, x, i, t, rfl, hT, hin, hk⟩ := h
    exact so_iaload C hd hT hin (hK _ _ _ _ _ hk)
  | baload =>
    obtain ⟨rfl, x, i, t, rfl, hT, hin, hk⟩ := h
    exact so_baload C hd hT hin (hK _ _ _ _ _ hk)
  | laload =>
    obtain ⟨rfl, x, i, t, rfl, hT, hin, hk⟩ := h
    exact so_laload C hd hT hin (hK _ _ _ _ _ hk)
  | iastore =>
    obtain ⟨rfl, v, x, i, t, rfl, hT, hin, hk⟩ := h
    exact so_iastore C hd hT hin (hK _ _ _ _ _ hk)
  | bastore =>
    obtain ⟨rfl, v, x, i, t, rfl, hT, hin, hk⟩ := h
    exact so_bastore C hd hT hin (hK _ _ _ _ _ hk)
  | lastore =>
    obtain ⟨rfl, v, x, i, t, rfl, hT, hin, hk⟩ := h
    exact so_lastore C hd hT hin (hK _ _ _ _ _ hk)
  | newarray a =>
    obtain ⟨rfl, n, t, rfl, ha, hn, hb8, hb1, hb2, X, hX, hk⟩ := h
    rcases ha with rfl | rfl | rfl
    · exact so_newarray_int C hd hn hb8 hb1 hb2 hX (hK _ _ _ _ _ hk)
    · exact so_newarray_byte C hd hn hb8 hb1 hb2 hX (hK _ _ _ _ _ hk)
    · exact so_newarray_long C hd hn hb8 hb1 hb2 hX (hK _ _ _ _ _ hk)
  | new n =>
    obtain ⟨rfl, c0, hc, hc13, hb1, hb2, X, hX, hk⟩ := h
    exact so_new C hd ⟨hc13, (V.2.2.2.2.2.1 _ _ hc).1 hc13⟩ hb1 hb2 hX (hK _ _ _ _ _ hk)
  | invokestatic n =>
    obtain ⟨rfl, ci, as, t, hG, h0, hlen, rfl, hsum, hb1, hb2, hsp⟩ := h
    exact so_static C V hd hG h0 hlen hsum hb1 hb2 hsp (fun v w1 h => hK _ _ _ _ _ h) (fun _ _ h => h)
  | invokevirtual n =>
    obtain ⟨rfl, ci, as, t, hG, ⟨i, r, rfl, hT, h0, h13⟩, hlen, rfl, hsum, hb1, hb2, hsp⟩ := h
    exact so_virtual C V hd hG hT h0 h13 hlen hsum hb1 hb2 hsp (fun v w1 h => hK _ _ _ _ _ h) (fun _ _ h => h)
  | invokespecial n =>
    rcases h with ⟨rfl, ci, i, t, hG, h0, rfl, hsum, hk⟩ | ⟨rfl, ci, as, t, hG, h0, ⟨i, r, rfl⟩, hlen, rfl, hsum, hb1, hb2, hsp⟩
    · exact so_objinit C V hd hG h0 hsum (hK _ _ _ _ _ hk)
    · exact so_special C V hd hG h0 hlen hsum hb1 hb2 hsp (fun v w1 h => hK _ _ _ _ _ h) (fun _ _ h => h)
  | ireturn =>
    obtain ⟨rfl, x, ty, rfl, hty, hn, hq⟩ := h
    exact so_ireturn C hd hty hn hq
  | lreturn =>
    obtain ⟨rfl, x, rfl, hty, hq⟩ := h
    exact so_lreturn C hd hty hq
  | areturn =>
    obtain ⟨rfl, r, ty, rfl, hty, hrt, hq⟩ := h
    exact so_areturn C hd hty hrt hq
  | return_ =>
    obtain ⟨rfl, rfl, hty, hq⟩ := h
    exact so_return C hd hty hq
  | _ => exact False.elim h
end SEM3
