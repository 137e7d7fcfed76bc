/-- words of classes that are not one another, no good words by themselves -/
def NCW : List Cond := [.not (.castable "java/lang/IllegalArgumentException" "java/util/NoSuchElementException"), .not (.castable "java/lang/IllegalStateException" "java/lang/IllegalArgumentException"), .not (.castable "java/lang/IndexOutOfBoundsException" "java/util/NoSuchElementException")]
abbrev tE (x : ExceptionTableEntry) : Nat × Nat × Nat × Nat := (x.startPc, x.endPc, x.handlerPc, x.catchType)
theorem tab1 {tl : List ExceptionTableEntry} {t : Nat × Nat × Nat × Nat} (h : tl.map tE = [t]) : ∃ x, tl = [x] ∧ tE x = t := by
  cases tl with
  | nil => cases h
  | cons x r =>
    cases r with
    | nil => exact ⟨x, rfl, (List.cons.inj h).1⟩
    | cons y r => cases (List.cons.inj h).2
theorem tab2 {tl : List ExceptionTableEntry} {t u : Nat × Nat × Nat × Nat} (h : tl.map tE = [t, u]) : ∃ x y, tl = [x, y] ∧ tE x = t ∧ tE y = u := by
  cases tl with
  | nil => cases h
  | cons x r =>
    obtain ⟨y, hy, e⟩ := tab1 (List.cons.inj h).2
    exact ⟨x, y, by rw [hy], (List.cons.inj h).1, e⟩
theorem lc_hit {s : State} {pl : Platform} {d th : ClassId} {pc a b h i : Nat} {x : ExceptionTableEntry} {r : List ExceptionTableEntry} {own A : String} {args : Array Value} (hpl : pl.magicAccessors = ({} : Platform).magicAccessors) (hown : s.vm.findClass own = some d) (hl : (Cond.classLink own i A).before args s = true) (hx : tE x = (a, b, h, i)) (hi : i ≠ 0) (hc : a ≤ pc ∧ pc < b) (ht : s.vm.findClass A = some th) : LcOK s pl d pc th h (x :: r) ∧ ∃ k, s.vm.classes[th]? = some k := by
  have e1 : x.startPc = a := congrArg (fun z => z.1) hx
  have e2 : x.endPc = b := congrArg (fun z => z.2.1) hx
  have e3 : x.handlerPc = h := congrArg (fun z => z.2.2.1) hx
  have e4 : x.catchType = i := congrArg (fun z => z.2.2.2) hx
  obtain ⟨c, hc1, hc2⟩ := Cond.classLink_spec hown hl pl hpl
  have ec : c = th := Option.some.inj (hc1.symm.trans ht)
  subst ec
  obtain ⟨dk, _, _, kt, hd, _, _, _, _, hkt, _, hopen⟩ := hc2.here
  refine ⟨⟨?_, by rw [e4]; exact hi, c, by rw [e4]; exact hc2, Or.inl ⟨Vm.assignable_self _ _, e3⟩⟩, kt, hkt⟩
  simp [covers, e1, e2, hc.1, hc.2]
theorem lc_pass {s : State} {pl : Platform} {d th : ClassId} {pc a b h h' i : Nat} {x : ExceptionTableEntry} {r : List ExceptionTableEntry} {own A B : String} {args : Array Value} (hpl : pl.magicAccessors = ({} : Platform).magicAccessors) (hown : s.vm.findClass own = some d) (hl : (Cond.classLink own i A).before args s = true) (hx : tE x = (a, b, h', i)) (hi : i ≠ 0) (hc : a ≤ pc ∧ pc < b) (ht : s.vm.findClass B = some th) (hn : (Cond.not (.castable B A)).before args s = true) (hr : LcOK s pl d pc th h r) : LcOK s pl d pc th h (x :: r) := by
  have e1 : x.startPc = a := congrArg (fun z => z.1) hx
  have e2 : x.endPc = b := congrArg (fun z => z.2.1) hx
  have e4 : x.catchType = i := congrArg (fun z => z.2.2.2) hx
  obtain ⟨c, hc1, hc2⟩ := Cond.classLink_spec hown hl pl hpl
  have hv := Cond.holds_not_iff.mp hn
  simp only [Cond.value, ht, hc1] at hv
  refine ⟨?_, by rw [e4]; exact hi, c, by rw [e4]; exact hc2, Or.inr ⟨Option.some.inj hv, hr⟩⟩
  simp [covers, e1, e2, hc.1, hc.2]
/-- a contract of a method with clauses -/
def MW (l : Launch) (E : AE) (y : MethodName) (cc : ByteArray) (maxL : Nat) (hh : List (Nat × Nat × Nat × Nat)) (fr lo mc ms : Nat) (as : List Value) (w : AW) (Q : AO → AW → Prop) : Prop :=
  l.stackTraces = false → ∀ ad : AM, (∀ v ∈ as, lvv w v) → vx_Met l y (.codeWith y cc maxL (some .int) hh :: (NCW ++ TBL)) { frames := fr, cells := mc, slots := ms, locals := lo } (mPc E ad w as) (mQc E ad w Q) (mXc E ad w Q) mc ms (fun q => E.2.2 ≤ q)
theorem MW.of {l : Launch} {E : AE} {S : MS} {y : MethodName} {cc : ByteArray} {hh : List (Nat × Nat × Nat × Nat)} {fr lo mc ms : Nat} {as : List Value} {w : AW} {Q : AO → AW → Prop} (hy : plainName y.cls = true) (hS : S.1 = y.cls) (hfit : (lg_sl as).length ≤ S.2.1)
    (h : ∀ (p : Program) (e : Env) (s : State) (m : MethodId) (args : Array Value) (below : List Frame) (meth : Method) (c : Code) (ad0 : AM), Cy p l { frames := fr, cells := mc, slots := ms, locals := lo } s m args meth c E S cc mc ms → e.platform.magicAccessors = ({} : Platform).magicAccessors → c.exceptionTable.toList.map tE = hh → (∀ w ∈ NCW, w.before args s = true) → Sm p l e { frames := fr, cells := mc, slots := ms, locals := lo } s m args below meth c E S mc ms w ad0 Q 0 (la as) [] w (mc, ms)) : MW l E y cc S.2.1 hh fr lo mc ms as w Q := by
  intro hst ad has
  refine vx_ofWH (cc := cc) (maxL := S.2.1) (ret := some .int) (hh := hh) hy rfl ?_
  intro p e s m args below meth c s₁ B hml hv
  obtain ⟨rfl, hC, hK, hbase, hKY⟩ := hv
  have hts0 := atoms_spec (ws := Cond.codeWith y cc S.2.1 (some .int) hh :: (NCW ++ TBL)) B.pre
  have hown : s.vm.findClass y.cls = some m.cls := findClass_of_methodNamed B.named
  have htb : c.exceptionTable.toList.map tE = hh := by
    obtain ⟨m9, meth9, c9, hn9, g1, g2, -, -, g6, -⟩ := Cond.codeWith_spec (hts0 _ List.mem_cons_self)
    cases Option.some.inj (hn9.symm.trans B.named)
    cases Option.some.inj (g1.symm.trans B.method)
    cases Option.some.inj (g2.symm.trans (Stand.of_body B).code)
    exact g6
  have hpl : e.platform.magicAccessors = ({} : Platform).magicAccessors := by rw [(Stand.of_body B).admits.platform]
  have C : Cy p l { frames := fr, cells := mc, slots := ms, locals := lo } s m (as.map (cv ad)).toArray meth c E S cc mc ms := ⟨B.exec, B.bytes, hml, by rw [hS]; exact hown, fun w hw => hts0 w (List.mem_cons_of_mem _ (List.mem_append_right _ hw)), hK, B.returns, B.notSynchronized, hbase, rfl, rfl, hst, hKY⟩
  have hX := h p e s m (as.map (cv ad)).toArray below meth c ad C hpl htb (fun w hw => hts0 w (List.mem_cons_of_mem _ (List.mem_append_left _ hw)))
  have hlen : (lg_sl (as.map (cv ad))).length ≤ S.2.1 := by
    have e1 : (lg_sl (as.map (cv ad))).length = (lg_sl as).length := by
      unfold lg_sl
      rw [List.length_flatMap, List.length_flatMap, List.map_map]
      congr 1
      refine List.map_congr_left (fun v _ => ?_)
      show (if (cv ad v).category = 2 then [Slot.val (cv ad v), .second] else [.val (cv ad v)]).length = _
      rw [cv_cat]
      split <;> rfl
    rw [e1]; exact hfit
  have hl := lv_entry (as.map (cv ad)) (n := S.2.1) hlen
  rw [lg_entry_eq]
  generalize (lg_sl (as.map (cv ad)) ++ List.replicate (S.2.1 - (lg_sl (as.map (cv ad))).length) Slot.unset).toArray = ls at hl ⊢
  refine hX ad s.heap [] ls 0 0 hC ⟨hl.1, hl.2.1, fun j v hj => ?_⟩ (fun j v hj => has v (lv_args_mem as 0 (j, v) (la_mem hj))) (fun v hv => by cases hv) va_S.rf (by dsimp only; omega) (by dsimp only; omega) (fun i hi => ⟨hi, rfl⟩)
  refine hl.2.2 (j, cv ad v) ?_
  rw [lv_args_map]
  exact List.mem_map.mpr ⟨(j, v), la_mem hj, rfl⟩
/-- what a wrapper leaves to the law -/
def WQ (S : CSp) (bs : List Value) (n : Nat) : AO → AW → Prop := fun o w1 => ∃ c y, c ≤ 2 ∧ o = .inl (some (.int (nI c))) ∧ (wT w1 222 = 22 ∧ wN w1 222 = 1) ∧ (c = 0 → wJ w1 222 0 = Int32.toInt64 y) ∧ S (.ref 100 :: bs) w1 (fun o' v => ∃ z, o' = .inl (some (.int z)) ∧ wI v 768 100 = nI c ∧ (c = 0 → z = y) ∧ Rel (n + 1) v)

theorem wr_told {n : Nat} {w : AW} (l : Launch) (E : AE) (h : Rel n w) (hn : n < 512) (p0 p1 : Int32) : MW l E yL_told cL_told 5 [(0, 10, 13, 19), (0, 10, 17, 13)] 8 134 2 12 [.ref 200, .int p0, .int p1, .ref 222] w (WQ sp_X12_told [.int p0, .int p1] n) := by
  refine MW.of (S := (RL, 5, some .int, false)) (by decide +kernel) rfl (show (4 : Nat) ≤ 5 by decide) ?_
  intro p e s m args below meth c ad0 C hpl htb hnc
  obtain ⟨hx, hb, hml, hown, hts, -⟩ := id C
  refine ty_aload_n C (show decode cL_told 0 = .ok (.aload_n 3, 1) by decide +kernel) rfl ?_
  refine ty_iconst C (show decode cL_told 1 = .ok (.iconst 0, 1) by decide +kernel) ?_
  refine ty_aload_n C (show decode cL_told 2 = .ok (.aload_n 0, 1) by decide +kernel) rfl ?_
  refine ty_iload_n C (show decode cL_told 3 = .ok (.iload_n 1, 1) by decide +kernel) rfl ?_
  refine ty_iload_n C (show decode cL_told 4 = .ok (.iload_n 2, 1) by decide +kernel) rfl ?_
  refine ty_call (r := [.int p0, .int p1]) (t := [.int (Int32.ofInt 0), .ref 222]) (np := 2) C (show decode cL_told 5 = .ok (.invokevirtual 15, 3) by decide +kernel) h.ci.2.1.1 (ct_X11_told l E _ _ _ (pr_told h hn p0 p1)) (by decide) (by decide) (TBL_tb (List.mem_append_right _ (List.mem_append_left _ (List.mem_of_getElem? (i := 229) rfl))) rfl) (TBL_tb (List.mem_append_left _ (List.mem_of_getElem? (i := 1) rfl)) rfl) (TBL_tb (List.mem_append_right _ (List.mem_append_left _ (List.mem_of_getElem? (i := 226) rfl))) rfl) ⟨by decide, by decide, by decide +kernel⟩ (TBL_tb (List.mem_append_right _ (List.mem_append_left _ (List.mem_of_getElem? (i := 227) rfl))) rfl) (TBL_tb (List.mem_append_right _ (List.mem_append_left _ (List.mem_of_getElem? (i := 228) rfl))) rfl) rfl rfl (by decide) (by decide) (by decide) (fun v w1 hq => ?_) (fun Ec w1 hq => ?_)
  · obtain ⟨ht, c0, y, ho, hS⟩ := hq
    rcases ho with ⟨ho, rfl⟩ | ⟨sx, ho, -⟩
    · have ho := Sum.inl.inj ho
      subst ho
      refine ty_i2l C (show decode cL_told 8 = .ok (.i2l, 1) by decide +kernel) ?_
      refine ty_lastore C (show decode cL_told 9 = .ok (.lastore, 1) by decide +kernel) ht.1 (by rw [ht.2]; exact vp_in_nI (show 0 < 1 by decide) (by decide)) ?_
      refine ty_goto C (g := 21) (show decode cL_told 10 = .ok (.goto 11, 3) by decide +kernel) (by decide) ?_
      refine ty_iconst C (show decode cL_told 21 = .ok (.iconst 0, 1) by decide +kernel) ?_
      refine ty_ireturn C (show decode cL_told 22 = .ok (.ireturn, 1) by decide +kernel) ?_
      rw [oJ_0] at hS
      exact ⟨0, y, by decide, rfl, ht, fun _ => rfl, hS⟩
    · cases ho
  · obtain ⟨ht, c0, y, ho, hS⟩ := hq
    rcases ho with ⟨ho, -⟩ | ⟨sx, ho, g0, g2, hex⟩
    · cases ho
    have ho := Sum.inr.inj ho
    subst ho
    obtain ⟨x1, x2, e0, e1, e2⟩ := tab2 htb
    rcases Nat.lt_or_ge c0 2 with z | z
    · have hc0 : c0 = 1 := by omega
      subst hc0
      have hex := Option.some.inj hex
      subst hex
      refine ⟨13, fun th hth => ?_, ty_hd2 C (show decode cL_told 13 = .ok (.astore 4, 2) by decide +kernel) (by decide) (show decode cL_told 15 = .ok (.iconst 1, 1) by decide +kernel) (show decode cL_told 16 = .ok (.ireturn, 1) by decide +kernel) ?_⟩
      · rw [e0]
        exact lc_hit hpl hown (hts _ (TBL_tb (List.mem_append_right _ (List.mem_append_left _ (List.mem_of_getElem? (i := 225) rfl))) rfl)) e1 (by decide) (by decide) hth
      · exact ⟨1, y, by decide, rfl, ht, fun z => absurd z (by decide), by rw [oJ_1] at hS; exact hS⟩
    · have hc0 : c0 = 2 := by omega
      subst hc0
      have hex := Option.some.inj hex
      subst hex
      refine ⟨17, fun th hth => ?_, ty_hd2 C (show decode cL_told 17 = .ok (.astore 4, 2) by decide +kernel) (by decide) (show decode cL_told 19 = .ok (.iconst 2, 1) by decide +kernel) (show decode cL_told 20 = .ok (.ireturn, 1) by decide +kernel) ?_⟩
      · rw [e0]
        have q := lc_hit (pc := 5) (x := x2) (r := []) hpl hown (hts _ (TBL_tb (List.mem_append_right _ (List.mem_append_left _ (List.mem_of_getElem? (i := 61) rfl))) rfl)) e2 (by decide) (by decide) hth
        exact ⟨lc_pass hpl hown (hts _ (TBL_tb (List.mem_append_right _ (List.mem_append_left _ (List.mem_of_getElem? (i := 225) rfl))) rfl)) e1 (by decide) (by decide) hth (hnc _ (by decide)) q.1, q.2⟩
      · exact ⟨2, y, by decide, rfl, ht, fun z => absurd z (by decide), by rw [oJ_2] at hS; exact hS⟩

