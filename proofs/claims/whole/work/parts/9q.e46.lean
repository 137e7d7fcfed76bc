/-- words of classes that are not one another, no good words by themselves -/
def NCW : List Cond := [.not (.castable "java/lang/IllegalArgumentException" "java/util/NoSuchElementException"), .not (.castable "java/lang/IllegalStateException" "java/lang/IllegalArgumentException"), .not (.castable "java/lang/IndexOutOfBoundsException" "java/util/NoSuchElementException")]
abbrev tE (x : ExceptionTableEntry) : Nat × Nat × Nat × Nat := (x.startPc, x.endPc, x.handlerPc, x.catchType)
theorem tab1 {tl : List ExceptionTableEntry} {t : Nat × Nat × Nat × Nat} (h : tl.map tE = [t]) : ∃ x, tl = [x] ∧ tE x = t := by
  cases tl with
  | nil => cases h
  | cons x r =>
    cases r with
    | nil => exact ⟨x, rfl, (List.cons.inj h).1⟩
    | cons y r => cases (List.cons.inj h).2
theorem tab2 {tl : List ExceptionTableEntry} {t u : Nat × Nat × Nat × Nat} (h : tl.map tE = [t, u]) : ∃ x y, tl = [x, y] ∧ tE x = t ∧ tE y = u := by
  cases tl with
  | nil => cases h
  | cons x r =>
    obtain ⟨y, hy, e⟩ := tab1 (List.cons.inj h).2
    exact ⟨x, y, by rw [hy], (List.cons.inj h).1, e⟩
theorem lc_hit {s : State} {pl : Platform} {d th : ClassId} {pc a b h i : Nat} {x : ExceptionTableEntry} {r : List ExceptionTableEntry} {own A : String} {args : Array Value} (hpl : pl.magicAccessors = ({} : Platform).magicAccessors) (hown : s.vm.findClass own = some d) (hl : (Cond.classLink own i A).before args s = true) (hx : tE x = (a, b, h, i)) (hi : i ≠ 0) (hc : a ≤ pc ∧ pc < b) (ht : s.vm.findClass A = some th) : LcOK s pl d pc th h (x :: r) ∧ ∃ k, s.vm.classes[th]? = some k := by
  have e1 : x.startPc = a := congrArg (fun z => z.1) hx
  have e2 : x.endPc = b := congrArg (fun z => z.2.1) hx
  have e3 : x.handlerPc = h := congrArg (fun z => z.2.2.1) hx
  have e4 : x.catchType = i := congrArg (fun z => z.2.2.2) hx
  obtain ⟨c, hc1, hc2⟩ := Cond.classLink_spec hown hl pl hpl
  have ec : c = th := Option.some.inj (hc1.symm.trans ht)
  subst ec
  obtain ⟨dk, _, _, kt, hd, _, _, _, _, hkt, _, hopen⟩ := hc2.here
  refine ⟨⟨?_, by rw [e4]; exact hi, c, by rw [e4]; exact hc2, Or.inl ⟨Vm.assignable_self _ _, e3⟩⟩, kt, hkt⟩
  simp [covers, e1, e2, hc.1, hc.2]
theorem lc_pass {s : State} {pl : Platform} {d th : ClassId} {pc a b h h' i : Nat} {x : ExceptionTableEntry} {r : List ExceptionTableEntry} {own A B : String} {args : Array Value} (hpl : pl.magicAccessors = ({} : Platform).magicAccessors) (hown : s.vm.findClass own = some d) (hl : (Cond.classLink own i A).before args s = true) (hx : tE x = (a, b, h', i)) (hi : i ≠ 0) (hc : a ≤ pc ∧ pc < b) (ht : s.vm.findClass B = some th) (hn : (Cond.not (.castable B A)).before args s = true) (hr : LcOK s pl d pc th h r) : LcOK s pl d pc th h (x :: r) := by
  have e1 : x.startPc = a := congrArg (fun z => z.1) hx
  have e2 : x.endPc = b := congrArg (fun z => z.2.1) hx
  have e4 : x.catchType = i := congrArg (fun z => z.2.2.2) hx
  obtain ⟨c, hc1, hc2⟩ := Cond.classLink_spec hown hl pl hpl
  have hv := Cond.holds_not_iff.mp hn
  simp only [Cond.value, ht, hc1] at hv
  refine ⟨?_, by rw [e4]; exact hi, c, by rw [e4]; exact hc2, Or.inr ⟨Option.some.inj hv, hr⟩⟩
  simp [covers, e1, e2, hc.1, hc.2]
/-- a contract of a method with clauses -/
def MW (l : Launch) (E : AE) (y : MethodName) (cc : ByteArray) (maxL : Nat) (hh : List (Nat × Nat × Nat × Nat)) (fr lo mc ms : Nat) (as : List Value) (w : AW) (Q : AO → AW → Prop) : Prop :=
  l.stackTraces = false → ∀ ad : AM, (∀ v ∈ as, lvv w v) → vx_Met l y (.codeWith y cc maxL (some .int) hh :: (NCW ++ TBL)) { frames := fr, cells := mc, slots := ms, locals := lo } (mPc E ad w as) (mQc E ad w Q) (mXc E ad w Q) mc ms (fun q => E.2.2 ≤ q)
theorem MW.of {l : Launch} {E : AE} {S : MS} {y : MethodName} {cc : ByteArray} {hh : List (Nat × Nat × Nat × Nat)} {fr lo mc ms : Nat} {as : List Value} {w : AW} {Q : AO → AW → Prop} (hy : plainName y.cls = true) (hS : S.1 = y.cls) (hfit : (lg_sl as).length ≤ S.2.1)
    (h : ∀ (p : Program) (e : Env) (s : State) (m : MethodId) (args : Array Value) (below : List Frame) (meth : Method) (c : Code) (ad0 : AM), Cy p l { frames := fr, cells := mc, slots := ms, locals := lo } s m args meth c E S cc mc ms → e.platform.magicAccessors = ({} : Platform).magicAccessors → c.exceptionTable.toList.map tE = hh → (∀ w ∈ NCW, w.before args s = true) → Sm p l e { frames := fr, cells := mc, slots := ms, locals := lo } s m args below meth c E S mc ms w ad0 Q 0 (la as) [] w (mc, ms)) : MW l E y cc S.2.1 hh fr lo mc ms as w Q := by
  intro hst ad has
  refine vx_ofWH (cc := cc) (maxL := S.2.1) (ret := some .int) (hh := hh) hy rfl ?_
  intro p e s m args below meth c s₁ B hml hv
  obtain ⟨rfl, hC, hK, hbase, hKY⟩ := hv
  have hts0 := atoms_spec (ws := Cond.codeWith y cc S.2.1 (some .int) hh :: (NCW ++ TBL)) B.pre
  have hown : s.vm.findClass y.cls = some m.cls := findClass_of_methodNamed B.named
  have htb : c.exceptionTable.toList.map tE = hh := by
    obtain ⟨m9, meth9, c9, hn9, g1, g2, -, -, g6, -⟩ := Cond.codeWith_spec (hts0 _ List.mem_cons_self)
    cases Option.some.inj (hn9.symm.trans B.named)
    cases Option.some.inj (g1.symm.trans B.method)
    cases Option.some.inj (g2.symm.trans (Stand.of_body B).code)
    exact g6
  have hpl : e.platform.magicAccessors = ({} : Platform).magicAccessors := by rw [(Stand.of_body B).admits.platform]
  have C : Cy p l { frames := fr, cells := mc, slots := ms, locals := lo } s m (as.map (cv ad)).toArray meth c E S cc mc ms := ⟨B.exec, B.bytes, hml, by rw [hS]; exact hown, fun w hw => hts0 w (List.mem_cons_of_mem _ (List.mem_append_right _ hw)), hK, B.returns, B.notSynchronized, hbase, rfl, rfl, hst, hKY⟩
  have hX := h p e s m (as.map (cv ad)).toArray below meth c ad C hpl htb (fun w hw => hts0 w (List.mem_cons_of_mem _ (List.mem_append_left _ hw)))
  have hlen : (lg_sl (as.map (cv ad))).length ≤ S.2.1 := by
    have e1 : (lg_sl (as.map (cv ad))).length = (lg_sl as).length := by
      unfold lg_sl
      rw [List.length_flatMap, List.length_flatMap, List.map_map]
      congr 1
      refine List.map_congr_left (fun v _ => ?_)
      show (if (cv ad v).category = 2 then [Slot.val (cv ad v), .second] else [.val (cv ad v)]).length = _
      rw [cv_cat]
      split <;> rfl
    rw [e1]; exact hfit
  have hl := lv_entry (as.map (cv ad)) (n := S.2.1) hlen
  rw [lg_entry_eq]
  generalize (lg_sl (as.map (cv ad)) ++ List.replicate (S.2.1 - (lg_sl (as.map (cv ad))).length) Slot.unset).toArray = ls at hl ⊢
  refine hX ad s.heap [] ls 0 0 hC ⟨hl.1, hl.2.1, fun j v hj => ?_⟩ (fun j v hj => has v (lv_args_mem as 0 (j, v) (la_mem hj))) (fun v hv => by cases hv) va_S.rf (by dsimp only; omega) (by dsimp only; omega) (fun i hi => ⟨hi, rfl⟩)
  refine hl.2.2 (j, cv ad v) ?_
  rw [lv_args_map]
  exact List.mem_map.mpr ⟨(j, v), la_mem hj, rfl⟩
/-- what a wrapper leaves to the law -/
def WQ (S : CSp) (bs : List Value) (n : Nat) : AO → AW → Prop := fun o w1 => ∃ c y, c ≤ 2 ∧ o = .inl (some (.int (nI c))) ∧ RLo w1 ∧ (c = 0 → wJ w1 222 0 = Int32.toInt64 y) ∧ S (.ref 100 :: bs) w1 (fun o' v => ∃ z, o' = .inl (some (.int z)) ∧ wI v 768 100 = nI c ∧ (c = 0 → z = y) ∧ Rel (n + 1) v)

theorem wr_work {n : Nat} {w : AW} (l : Launch) (E : AE) (h : Rel n w) (hn : n < 512) (p0 p1 p2 p3 p4 : Int32) : MW l E yL_work cL_work 8 [(0, 16, 19, 13)] 9 220 6 6650 [.ref 200, .int p0, .int p1, .int p2, .int p3, .int p4, .ref 222] w (WQ sp_X12_work [.int p0, .int p1, .int p2, .int p3, .int p4] n) := by
  refine MW.of (S := (RL, 8, some .int, false)) (by decide +kernel) rfl (show (7 : Nat) ≤ 8 by decide) ?_
  intro p e s m args below meth c ad0 C hpl htb hnc
  obtain ⟨hx, hb, hml, hown, hts, -⟩ := id C
  refine ty_aload C (show decode cL_work 0 = .ok (.aload 6, 2) by decide +kernel) rfl ?_
  refine ty_iconst C (show decode cL_work 2 = .ok (.iconst 0, 1) by decide +kernel) ?_
  refine ty_aload_n C (show decode cL_work 3 = .ok (.aload_n 0, 1) by decide +kernel) rfl ?_
  refine ty_iload_n C (show decode cL_work 4 = .ok (.iload_n 1, 1) by decide +kernel) rfl ?_
  refine ty_iload_n C (show decode cL_work 5 = .ok (.iload_n 2, 1) by decide +kernel) rfl ?_
  refine ty_iload_n C (show decode cL_work 6 = .ok (.iload_n 3, 1) by decide +kernel) rfl ?_
  refine ty_iload C (show decode cL_work 7 = .ok (.iload 4, 2) by decide +kernel) rfl ?_
  refine ty_iload C (show decode cL_work 9 = .ok (.iload 5, 2) by decide +kernel) rfl ?_
  refine ty_call (r := [.int p0, .int p1, .int p2, .int p3, .int p4]) (t := [.int (Int32.ofInt 0), .ref 222]) (np := 5) C (show decode cL_work 11 = .ok (.invokevirtual 7, 3) by decide +kernel) h.ci.2.1.1 (ct_X11_work l E _ _ _ (pr_work h hn p0 p1 p2 p3 p4)) (by decide) (by decide) (TBL_tb (List.mem_append_right _ (List.mem_append_left _ (List.mem_of_getElem? (i := 65) rfl))) rfl) (TBL_tb (List.mem_append_left _ (List.mem_of_getElem? (i := 1) rfl)) rfl) (TBL_tb (List.mem_append_right _ (List.mem_append_left _ (List.mem_of_getElem? (i := 62) rfl))) rfl) ⟨by decide, by decide, by decide +kernel⟩ (TBL_tb (List.mem_append_right _ (List.mem_append_left _ (List.mem_of_getElem? (i := 63) rfl))) rfl) (TBL_tb (List.mem_append_right _ (List.mem_append_left _ (List.mem_of_getElem? (i := 64) rfl))) rfl) rfl rfl (by decide) (by decide) (by decide) (fun v w1 hq => ?_) (fun Ec w1 hq => ?_)
  · obtain ⟨ht, c0, y, ho, hS⟩ := hq
    rcases ho with ⟨ho, rfl⟩ | ⟨sx, ho, -⟩
    · have ho := Sum.inl.inj ho
      subst ho
      refine ty_i2l C (show decode cL_work 14 = .ok (.i2l, 1) by decide +kernel) ?_
      refine ty_lastore C (show decode cL_work 15 = .ok (.lastore, 1) by decide +kernel) ht.1 (by rw [ht.2.1]; exact vp_in_nI (show 0 < 1 by decide) (by decide)) ?_
      refine ty_goto C (g := 23) (show decode cL_work 16 = .ok (.goto 7, 3) by decide +kernel) (by decide) ?_
      refine ty_iconst C (show decode cL_work 23 = .ok (.iconst 0, 1) by decide +kernel) ?_
      refine ty_ireturn C (show decode cL_work 24 = .ok (.ireturn, 1) by decide +kernel) ?_
      rw [oJ_0] at hS
      exact ⟨0, y, by decide, rfl, ht, fun _ => rfl, hS⟩
    · cases ho
  · obtain ⟨ht, c0, y, ho, hS⟩ := hq
    rcases ho with ⟨ho, -⟩ | ⟨sx, ho, g0, g2, hex⟩
    · cases ho
    have ho := Sum.inr.inj ho
    subst ho
    obtain ⟨x1, e0, e1⟩ := tab1 htb
    have hc0 : c0 = 1 := by
      rcases Nat.lt_or_ge c0 2 with z | z
      · omega
      · have z2 : c0 = 2 := by omega
        subst z2; cases hex
    subst hc0
    have hex := Option.some.inj hex
    subst hex
    refine ⟨19, fun th hth => ?_, ty_hd2 C (show decode cL_work 19 = .ok (.astore 7, 2) by decide +kernel) (by decide) (show decode cL_work 21 = .ok (.iconst 1, 1) by decide +kernel) (show decode cL_work 22 = .ok (.ireturn, 1) by decide +kernel) ?_⟩
    · rw [e0]
      exact lc_hit hpl hown (hts _ (TBL_tb (List.mem_append_right _ (List.mem_append_left _ (List.mem_of_getElem? (i := 61) rfl))) rfl)) e1 (by decide) (by decide) hth
    · exact ⟨1, y, by decide, rfl, ht, fun z => absurd z (by decide), by rw [oJ_1] at hS; exact hS⟩

theorem wr_told {n : Nat} {w : AW} (l : Launch) (E : AE) (h : Rel n w) (hn : n < 512) (p0 p1 : Int32) : MW l E yL_told cL_told 5 [(0, 10, 13, 19), (0, 10, 17, 13)] 8 134 2 12 [.ref 200, .int p0, .int p1, .ref 222] w (WQ sp_X12_told [.int p0, .int p1] n) := by
  refine MW.of (S := (RL, 5, some .int, false)) (by decide +kernel) rfl (show (4 : Nat) ≤ 5 by decide) ?_
  intro p e s m args below meth c ad0 C hpl htb hnc
  obtain ⟨hx, hb, hml, hown, hts, -⟩ := id C
  refine ty_aload_n C (show decode cL_told 0 = .ok (.aload_n 3, 1) by decide +kernel) rfl ?_
  refine ty_iconst C (show decode cL_told 1 = .ok (.iconst 0, 1) by decide +kernel) ?_
  refine ty_aload_n C (show decode cL_told 2 = .ok (.aload_n 0, 1) by decide +kernel) rfl ?_
  refine ty_iload_n C (show decode cL_told 3 = .ok (.iload_n 1, 1) by decide +kernel) rfl ?_
  refine ty_iload_n C (show decode cL_told 4 = .ok (.iload_n 2, 1) by decide +kernel) rfl ?_
  refine ty_call (r := [.int p0, .int p1]) (t := [.int (Int32.ofInt 0), .ref 222]) (np := 2) C (show decode cL_told 5 = .ok (.invokevirtual 15, 3) by decide +kernel) h.ci.2.1.1 (ct_X11_told l E _ _ _ (pr_told h hn p0 p1)) (by decide) (by decide) (TBL_tb (List.mem_append_right _ (List.mem_append_left _ (List.mem_of_getElem? (i := 229) rfl))) rfl) (TBL_tb (List.mem_append_left _ (List.mem_of_getElem? (i := 1) rfl)) rfl) (TBL_tb (List.mem_append_right _ (List.mem_append_left _ (List.mem_of_getElem? (i := 226) rfl))) rfl) ⟨by decide, by decide, by decide +kernel⟩ (TBL_tb (List.mem_append_right _ (List.mem_append_left _ (List.mem_of_getElem? (i := 227) rfl))) rfl) (TBL_tb (List.mem_append_right _ (List.mem_append_left _ (List.mem_of_getElem? (i := 228) rfl))) rfl) rfl rfl (by decide) (by decide) (by decide) (fun v w1 hq => ?_) (fun Ec w1 hq => ?_)
  · obtain ⟨ht, c0, y, ho, hS⟩ := hq
    rcases ho with ⟨ho, rfl⟩ | ⟨sx, ho, -⟩
    · have ho := Sum.inl.inj ho
      subst ho
      refine ty_i2l C (show decode cL_told 8 = .ok (.i2l, 1) by decide +kernel) ?_
      refine ty_lastore C (show decode cL_told 9 = .ok (.lastore, 1) by decide +kernel) ht.1 (by rw [ht.2.1]; exact vp_in_nI (show 0 < 1 by decide) (by decide)) ?_
      refine ty_goto C (g := 21) (show decode cL_told 10 = .ok (.goto 11, 3) by decide +kernel) (by decide) ?_
      refine ty_iconst C (show decode cL_told 21 = .ok (.iconst 0, 1) by decide +kernel) ?_
      refine ty_ireturn C (show decode cL_told 22 = .ok (.ireturn, 1) by decide +kernel) ?_
      rw [oJ_0] at hS
      exact ⟨0, y, by decide, rfl, ht, fun _ => rfl, hS⟩
    · cases ho
  · obtain ⟨ht, c0, y, ho, hS⟩ := hq
    rcases ho with ⟨ho, -⟩ | ⟨sx, ho, g0, g2, hex⟩
    · cases ho
    have ho := Sum.inr.inj ho
    subst ho
    obtain ⟨x1, x2, e0, e1, e2⟩ := tab2 htb
    rcases Nat.lt_or_ge c0 2 with z | z
    · have hc0 : c0 = 1 := by omega
      subst hc0
      have hex := Option.some.inj hex
      subst hex
      refine ⟨13, fun th hth => ?_, ty_hd2 C (show decode cL_told 13 = .ok (.astore 4, 2) by decide +kernel) (by decide) (show decode cL_told 15 = .ok (.iconst 1, 1) by decide +kernel) (show decode cL_told 16 = .ok (.ireturn, 1) by decide +kernel) ?_⟩
      · rw [e0]
        exact lc_hit hpl hown (hts _ (TBL_tb (List.mem_append_right _ (List.mem_append_left _ (List.mem_of_getElem? (i := 225) rfl))) rfl)) e1 (by decide) (by decide) hth
      · exact ⟨1, y, by decide, rfl, ht, fun z => absurd z (by decide), by rw [oJ_1] at hS; exact hS⟩
    · have hc0 : c0 = 2 := by omega
      subst hc0
      have hex := Option.some.inj hex
      subst hex
      refine ⟨17, fun th hth => ?_, ty_hd2 C (show decode cL_told 17 = .ok (.astore 4, 2) by decide +kernel) (by decide) (show decode cL_told 19 = .ok (.iconst 2, 1) by decide +kernel) (show decode cL_told 20 = .ok (.ireturn, 1) by decide +kernel) ?_⟩
      · rw [e0]
        have q := lc_hit (pc := 5) (x := x2) (r := []) hpl hown (hts _ (TBL_tb (List.mem_append_right _ (List.mem_append_left _ (List.mem_of_getElem? (i := 61) rfl))) rfl)) e2 (by decide) (by decide) hth
        exact ⟨lc_pass hpl hown (hts _ (TBL_tb (List.mem_append_right _ (List.mem_append_left _ (List.mem_of_getElem? (i := 225) rfl))) rfl)) e1 (by decide) (by decide) hth (hnc _ (by decide)) q.1, q.2⟩
      · exact ⟨2, y, by decide, rfl, ht, fun z => absurd z (by decide), by rw [oJ_2] at hS; exact hS⟩

theorem wr_history {n : Nat} {w : AW} (l : Launch) (E : AE) (h : Rel n w) (hn : n < 512) (p0 p1 p2 : Int32) : MW l E yL_history cL_history 6 [(0, 12, 15, 19), (0, 12, 19, 13)] 8 136 2 12 [.ref 200, .int p0, .int p1, .int p2, .ref 222] w (WQ sp_X12_history [.int p0, .int p1, .int p2] n) := by
  refine MW.of (S := (RL, 6, some .int, false)) (by decide +kernel) rfl (show (5 : Nat) ≤ 6 by decide) ?_
  intro p e s m args below meth c ad0 C hpl htb hnc
  obtain ⟨hx, hb, hml, hown, hts, -⟩ := id C
  refine ty_aload C (show decode cL_history 0 = .ok (.aload 4, 2) by decide +kernel) rfl ?_
  refine ty_iconst C (show decode cL_history 2 = .ok (.iconst 0, 1) by decide +kernel) ?_
  refine ty_aload_n C (show decode cL_history 3 = .ok (.aload_n 0, 1) by decide +kernel) rfl ?_
  refine ty_iload_n C (show decode cL_history 4 = .ok (.iload_n 1, 1) by decide +kernel) rfl ?_
  refine ty_iload_n C (show decode cL_history 5 = .ok (.iload_n 2, 1) by decide +kernel) rfl ?_
  refine ty_iload_n C (show decode cL_history 6 = .ok (.iload_n 3, 1) by decide +kernel) rfl ?_
  refine ty_call (r := [.int p0, .int p1, .int p2]) (t := [.int (Int32.ofInt 0), .ref 222]) (np := 3) C (show decode cL_history 7 = .ok (.invokevirtual 21, 3) by decide +kernel) h.ci.2.1.1 (ct_X11_history l E _ _ _ (pr_history h hn p0 p1 p2)) (by decide) (by decide) (TBL_tb (List.mem_append_right _ (List.mem_append_right _ (List.mem_append_left _ (List.mem_of_getElem? (i := 16) rfl)))) rfl) (TBL_tb (List.mem_append_left _ (List.mem_of_getElem? (i := 1) rfl)) rfl) (TBL_tb (List.mem_append_right _ (List.mem_append_right _ (List.mem_append_left _ (List.mem_of_getElem? (i := 13) rfl)))) rfl) ⟨by decide, by decide, by decide +kernel⟩ (TBL_tb (List.mem_append_right _ (List.mem_append_right _ (List.mem_append_left _ (List.mem_of_getElem? (i := 14) rfl)))) rfl) (TBL_tb (List.mem_append_right _ (List.mem_append_right _ (List.mem_append_left _ (List.mem_of_getElem? (i := 15) rfl)))) rfl) rfl rfl (by decide) (by decide) (by decide) (fun v w1 hq => ?_) (fun Ec w1 hq => ?_)
  · obtain ⟨ht, c0, y, ho, hS⟩ := hq
    rcases ho with ⟨ho, rfl⟩ | ⟨sx, ho, -⟩
    · have ho := Sum.inl.inj ho
      subst ho
      refine ty_i2l C (show decode cL_history 10 = .ok (.i2l, 1) by decide +kernel) ?_
      refine ty_lastore C (show decode cL_history 11 = .ok (.lastore, 1) by decide +kernel) ht.1 (by rw [ht.2.1]; exact vp_in_nI (show 0 < 1 by decide) (by decide)) ?_
      refine ty_goto C (g := 23) (show decode cL_history 12 = .ok (.goto 11, 3) by decide +kernel) (by decide) ?_
      refine ty_iconst C (show decode cL_history 23 = .ok (.iconst 0, 1) by decide +kernel) ?_
      refine ty_ireturn C (show decode cL_history 24 = .ok (.ireturn, 1) by decide +kernel) ?_
      rw [oJ_0] at hS
      exact ⟨0, y, by decide, rfl, ht, fun _ => rfl, hS⟩
    · cases ho
  · obtain ⟨ht, c0, y, ho, hS⟩ := hq
    rcases ho with ⟨ho, -⟩ | ⟨sx, ho, g0, g2, hex⟩
    · cases ho
    have ho := Sum.inr.inj ho
    subst ho
    obtain ⟨x1, x2, e0, e1, e2⟩ := tab2 htb
    rcases Nat.lt_or_ge c0 2 with z | z
    · have hc0 : c0 = 1 := by omega
      subst hc0
      have hex := Option.some.inj hex
      subst hex
      refine ⟨15, fun th hth => ?_, ty_hd2 C (show decode cL_history 15 = .ok (.astore 5, 2) by decide +kernel) (by decide) (show decode cL_history 17 = .ok (.iconst 1, 1) by decide +kernel) (show decode cL_history 18 = .ok (.ireturn, 1) by decide +kernel) ?_⟩
      · rw [e0]
        exact lc_hit hpl hown (hts _ (TBL_tb (List.mem_append_right _ (List.mem_append_left _ (List.mem_of_getElem? (i := 225) rfl))) rfl)) e1 (by decide) (by decide) hth
      · exact ⟨1, y, by decide, rfl, ht, fun z => absurd z (by decide), by rw [oJ_1] at hS; exact hS⟩
    · have hc0 : c0 = 2 := by omega
      subst hc0
      have hex := Option.some.inj hex
      subst hex
      refine ⟨19, fun th hth => ?_, ty_hd2 C (show decode cL_history 19 = .ok (.astore 5, 2) by decide +kernel) (by decide) (show decode cL_history 21 = .ok (.iconst 2, 1) by decide +kernel) (show decode cL_history 22 = .ok (.ireturn, 1) by decide +kernel) ?_⟩
      · rw [e0]
        have q := lc_hit (pc := 7) (x := x2) (r := []) hpl hown (hts _ (TBL_tb (List.mem_append_right _ (List.mem_append_left _ (List.mem_of_getElem? (i := 61) rfl))) rfl)) e2 (by decide) (by decide) hth
        exact ⟨lc_pass hpl hown (hts _ (TBL_tb (List.mem_append_right _ (List.mem_append_left _ (List.mem_of_getElem? (i := 225) rfl))) rfl)) e1 (by decide) (by decide) hth (hnc _ (by decide)) q.1, q.2⟩
      · exact ⟨2, y, by decide, rfl, ht, fun z => absurd z (by decide), by rw [oJ_2] at hS; exact hS⟩

theorem wr_lead {n : Nat} {w : AW} (l : Launch) (E : AE) (h : Rel n w) (hn : n < 512) (p0 p1 : Int32) : MW l E yL_lead cL_lead 5 [(0, 10, 13, 19)] 8 136 1 6 [.ref 200, .int p0, .int p1, .ref 222] w (WQ sp_X12_lead [.int p0, .int p1] n) := by
  refine MW.of (S := (RL, 5, some .int, false)) (by decide +kernel) rfl (show (4 : Nat) ≤ 5 by decide) ?_
  intro p e s m args below meth c ad0 C hpl htb hnc
  obtain ⟨hx, hb, hml, hown, hts, -⟩ := id C
  refine ty_aload_n C (show decode cL_lead 0 = .ok (.aload_n 3, 1) by decide +kernel) rfl ?_
  refine ty_iconst C (show decode cL_lead 1 = .ok (.iconst 0, 1) by decide +kernel) ?_
  refine ty_aload_n C (show decode cL_lead 2 = .ok (.aload_n 0, 1) by decide +kernel) rfl ?_
  refine ty_iload_n C (show decode cL_lead 3 = .ok (.iload_n 1, 1) by decide +kernel) rfl ?_
  refine ty_iload_n C (show decode cL_lead 4 = .ok (.iload_n 2, 1) by decide +kernel) rfl ?_
  refine ty_call (r := [.int p0, .int p1]) (t := [.int (Int32.ofInt 0), .ref 222]) (np := 2) C (show decode cL_lead 5 = .ok (.invokevirtual 25, 3) by decide +kernel) h.ci.2.1.1 (ct_X11_lead l E _ _ _ (pr_lead h hn p0 p1)) (by decide) (by decide) (TBL_tb (List.mem_append_right _ (List.mem_append_right _ (List.mem_append_left _ (List.mem_of_getElem? (i := 24) rfl)))) rfl) (TBL_tb (List.mem_append_left _ (List.mem_of_getElem? (i := 1) rfl)) rfl) (TBL_tb (List.mem_append_right _ (List.mem_append_right _ (List.mem_append_left _ (List.mem_of_getElem? (i := 21) rfl)))) rfl) ⟨by decide, by decide, by decide +kernel⟩ (TBL_tb (List.mem_append_right _ (List.mem_append_right _ (List.mem_append_left _ (List.mem_of_getElem? (i := 22) rfl)))) rfl) (TBL_tb (List.mem_append_right _ (List.mem_append_right _ (List.mem_append_left _ (List.mem_of_getElem? (i := 23) rfl)))) rfl) rfl rfl (by decide) (by decide) (by decide) (fun v w1 hq => ?_) (fun Ec w1 hq => ?_)
  · obtain ⟨ht, c0, y, ho, hS⟩ := hq
    rcases ho with ⟨ho, rfl⟩ | ⟨sx, ho, -⟩
    · have ho := Sum.inl.inj ho
      subst ho
      refine ty_i2l C (show decode cL_lead 8 = .ok (.i2l, 1) by decide +kernel) ?_
      refine ty_lastore C (show decode cL_lead 9 = .ok (.lastore, 1) by decide +kernel) ht.1 (by rw [ht.2.1]; exact vp_in_nI (show 0 < 1 by decide) (by decide)) ?_
      refine ty_goto C (g := 17) (show decode cL_lead 10 = .ok (.goto 7, 3) by decide +kernel) (by decide) ?_
      refine ty_iconst C (show decode cL_lead 17 = .ok (.iconst 0, 1) by decide +kernel) ?_
      refine ty_ireturn C (show decode cL_lead 18 = .ok (.ireturn, 1) by decide +kernel) ?_
      rw [oJ_0] at hS
      exact ⟨0, y, by decide, rfl, ht, fun _ => rfl, hS⟩
    · cases ho
  · obtain ⟨ht, c0, y, ho, hS⟩ := hq
    rcases ho with ⟨ho, -⟩ | ⟨sx, ho, g0, g2, hex⟩
    · cases ho
    have ho := Sum.inr.inj ho
    subst ho
    obtain ⟨x1, e0, e1⟩ := tab1 htb
    have hc0 : c0 = 1 := by
      rcases Nat.lt_or_ge c0 2 with z | z
      · omega
      · have z2 : c0 = 2 := by omega
        subst z2; cases hex
    subst hc0
    have hex := Option.some.inj hex
    subst hex
    refine ⟨13, fun th hth => ?_, ty_hd2 C (show decode cL_lead 13 = .ok (.astore 4, 2) by decide +kernel) (by decide) (show decode cL_lead 15 = .ok (.iconst 1, 1) by decide +kernel) (show decode cL_lead 16 = .ok (.ireturn, 1) by decide +kernel) ?_⟩
    · rw [e0]
      exact lc_hit hpl hown (hts _ (TBL_tb (List.mem_append_right _ (List.mem_append_left _ (List.mem_of_getElem? (i := 225) rfl))) rfl)) e1 (by decide) (by decide) hth
    · exact ⟨1, y, by decide, rfl, ht, fun z => absurd z (by decide), by rw [oJ_1] at hS; exact hS⟩

theorem wr_room {n : Nat} {w : AW} (l : Launch) (E : AE) (h : Rel n w) (hn : n < 512) (p0 p1 p2 p3 p4 : Int32) : MW l E yL_room cL_room 8 [(0, 16, 19, 13)] 8 196 4 3330 [.ref 200, .int p0, .int p1, .int p2, .int p3, .int p4, .ref 222] w (WQ sp_X12_room [.int p0, .int p1, .int p2, .int p3, .int p4] n) := by
  refine MW.of (S := (RL, 8, some .int, false)) (by decide +kernel) rfl (show (7 : Nat) ≤ 8 by decide) ?_
  intro p e s m args below meth c ad0 C hpl htb hnc
  obtain ⟨hx, hb, hml, hown, hts, -⟩ := id C
  refine ty_aload C (show decode cL_room 0 = .ok (.aload 6, 2) by decide +kernel) rfl ?_
  refine ty_iconst C (show decode cL_room 2 = .ok (.iconst 0, 1) by decide +kernel) ?_
  refine ty_aload_n C (show decode cL_room 3 = .ok (.aload_n 0, 1) by decide +kernel) rfl ?_
  refine ty_iload_n C (show decode cL_room 4 = .ok (.iload_n 1, 1) by decide +kernel) rfl ?_
  refine ty_iload_n C (show decode cL_room 5 = .ok (.iload_n 2, 1) by decide +kernel) rfl ?_
  refine ty_iload_n C (show decode cL_room 6 = .ok (.iload_n 3, 1) by decide +kernel) rfl ?_
  refine ty_iload C (show decode cL_room 7 = .ok (.iload 4, 2) by decide +kernel) rfl ?_
  refine ty_iload C (show decode cL_room 9 = .ok (.iload 5, 2) by decide +kernel) rfl ?_
  refine ty_call (r := [.int p0, .int p1, .int p2, .int p3, .int p4]) (t := [.int (Int32.ofInt 0), .ref 222]) (np := 5) C (show decode cL_room 11 = .ok (.invokevirtual 28, 3) by decide +kernel) h.ci.2.1.1 (ct_X11_room l E _ _ _ (pr_room h hn p0 p1 p2 p3 p4)) (by decide) (by decide) (TBL_tb (List.mem_append_right _ (List.mem_append_right _ (List.mem_append_left _ (List.mem_of_getElem? (i := 31) rfl)))) rfl) (TBL_tb (List.mem_append_left _ (List.mem_of_getElem? (i := 1) rfl)) rfl) (TBL_tb (List.mem_append_right _ (List.mem_append_right _ (List.mem_append_left _ (List.mem_of_getElem? (i := 28) rfl)))) rfl) ⟨by decide, by decide, by decide +kernel⟩ (TBL_tb (List.mem_append_right _ (List.mem_append_right _ (List.mem_append_left _ (List.mem_of_getElem? (i := 29) rfl)))) rfl) (TBL_tb (List.mem_append_right _ (List.mem_append_right _ (List.mem_append_left _ (List.mem_of_getElem? (i := 30) rfl)))) rfl) rfl rfl (by decide) (by decide) (by decide) (fun v w1 hq => ?_) (fun Ec w1 hq => ?_)
  · obtain ⟨ht, c0, y, ho, hS⟩ := hq
    rcases ho with ⟨ho, rfl⟩ | ⟨sx, ho, -⟩
    · have ho := Sum.inl.inj ho
      subst ho
      refine ty_i2l C (show decode cL_room 14 = .ok (.i2l, 1) by decide +kernel) ?_
      refine ty_lastore C (show decode cL_room 15 = .ok (.lastore, 1) by decide +kernel) ht.1 (by rw [ht.2.1]; exact vp_in_nI (show 0 < 1 by decide) (by decide)) ?_
      refine ty_goto C (g := 23) (show decode cL_room 16 = .ok (.goto 7, 3) by decide +kernel) (by decide) ?_
      refine ty_iconst C (show decode cL_room 23 = .ok (.iconst 0, 1) by decide +kernel) ?_
      refine ty_ireturn C (show decode cL_room 24 = .ok (.ireturn, 1) by decide +kernel) ?_
      rw [oJ_0] at hS
      exact ⟨0, y, by decide, rfl, ht, fun _ => rfl, hS⟩
    · cases ho
  · obtain ⟨ht, c0, y, ho, hS⟩ := hq
    rcases ho with ⟨ho, -⟩ | ⟨sx, ho, g0, g2, hex⟩
    · cases ho
    have ho := Sum.inr.inj ho
    subst ho
    obtain ⟨x1, e0, e1⟩ := tab1 htb
    have hc0 : c0 = 1 := by
      rcases Nat.lt_or_ge c0 2 with z | z
      · omega
      · have z2 : c0 = 2 := by omega
        subst z2; cases hex
    subst hc0
    have hex := Option.some.inj hex
    subst hex
    refine ⟨19, fun th hth => ?_, ty_hd2 C (show decode cL_room 19 = .ok (.astore 7, 2) by decide +kernel) (by decide) (show decode cL_room 21 = .ok (.iconst 1, 1) by decide +kernel) (show decode cL_room 22 = .ok (.ireturn, 1) by decide +kernel) ?_⟩
    · rw [e0]
      exact lc_hit hpl hown (hts _ (TBL_tb (List.mem_append_right _ (List.mem_append_left _ (List.mem_of_getElem? (i := 61) rfl))) rfl)) e1 (by decide) (by decide) hth
    · exact ⟨1, y, by decide, rfl, ht, fun z => absurd z (by decide), by rw [oJ_1] at hS; exact hS⟩

theorem wr_air {n : Nat} {w : AW} (l : Launch) (E : AE) (h : Rel n w) (hn : n < 512) (p0 p1 p2 : Int32) : MW l E yL_air cL_air 6 [(0, 12, 15, 19), (0, 12, 19, 34)] 8 136 2 12 [.ref 200, .int p0, .int p1, .int p2, .ref 222] w (WQ sp_X12_air [.int p0, .int p1, .int p2] n) := by
  refine MW.of (S := (RL, 6, some .int, false)) (by decide +kernel) rfl (show (5 : Nat) ≤ 6 by decide) ?_
  intro p e s m args below meth c ad0 C hpl htb hnc
  obtain ⟨hx, hb, hml, hown, hts, -⟩ := id C
  refine ty_aload C (show decode cL_air 0 = .ok (.aload 4, 2) by decide +kernel) rfl ?_
  refine ty_iconst C (show decode cL_air 2 = .ok (.iconst 0, 1) by decide +kernel) ?_
  refine ty_aload_n C (show decode cL_air 3 = .ok (.aload_n 0, 1) by decide +kernel) rfl ?_
  refine ty_iload_n C (show decode cL_air 4 = .ok (.iload_n 1, 1) by decide +kernel) rfl ?_
  refine ty_iload_n C (show decode cL_air 5 = .ok (.iload_n 2, 1) by decide +kernel) rfl ?_
  refine ty_iload_n C (show decode cL_air 6 = .ok (.iload_n 3, 1) by decide +kernel) rfl ?_
  refine ty_call (r := [.int p0, .int p1, .int p2]) (t := [.int (Int32.ofInt 0), .ref 222]) (np := 3) C (show decode cL_air 7 = .ok (.invokevirtual 31, 3) by decide +kernel) h.ci.2.1.1 (ct_X11_air l E _ _ _ (pr_air h hn p0 p1 p2)) (by decide) (by decide) (TBL_tb (List.mem_append_right _ (List.mem_append_right _ (List.mem_append_left _ (List.mem_of_getElem? (i := 90) rfl)))) rfl) (TBL_tb (List.mem_append_left _ (List.mem_of_getElem? (i := 1) rfl)) rfl) (TBL_tb (List.mem_append_right _ (List.mem_append_right _ (List.mem_append_left _ (List.mem_of_getElem? (i := 87) rfl)))) rfl) ⟨by decide, by decide, by decide +kernel⟩ (TBL_tb (List.mem_append_right _ (List.mem_append_right _ (List.mem_append_left _ (List.mem_of_getElem? (i := 88) rfl)))) rfl) (TBL_tb (List.mem_append_right _ (List.mem_append_right _ (List.mem_append_left _ (List.mem_of_getElem? (i := 89) rfl)))) rfl) rfl rfl (by decide) (by decide) (by decide) (fun v w1 hq => ?_) (fun Ec w1 hq => ?_)
  · obtain ⟨ht, c0, y, ho, hS⟩ := hq
    rcases ho with ⟨ho, rfl⟩ | ⟨sx, ho, -⟩
    · have ho := Sum.inl.inj ho
      subst ho
      refine ty_i2l C (show decode cL_air 10 = .ok (.i2l, 1) by decide +kernel) ?_
      refine ty_lastore C (show decode cL_air 11 = .ok (.lastore, 1) by decide +kernel) ht.1 (by rw [ht.2.1]; exact vp_in_nI (show 0 < 1 by decide) (by decide)) ?_
      refine ty_goto C (g := 23) (show decode cL_air 12 = .ok (.goto 11, 3) by decide +kernel) (by decide) ?_
      refine ty_iconst C (show decode cL_air 23 = .ok (.iconst 0, 1) by decide +kernel) ?_
      refine ty_ireturn C (show decode cL_air 24 = .ok (.ireturn, 1) by decide +kernel) ?_
      rw [oJ_0] at hS
      exact ⟨0, y, by decide, rfl, ht, fun _ => rfl, hS⟩
    · cases ho
  · obtain ⟨ht, c0, y, ho, hS⟩ := hq
    rcases ho with ⟨ho, -⟩ | ⟨sx, ho, g0, g2, hex⟩
    · cases ho
    have ho := Sum.inr.inj ho
    subst ho
    obtain ⟨x1, x2, e0, e1, e2⟩ := tab2 htb
    rcases Nat.lt_or_ge c0 2 with z | z
    · have hc0 : c0 = 1 := by omega
      subst hc0
      have hex := Option.some.inj hex
      subst hex
      refine ⟨15, fun th hth => ?_, ty_hd2 C (show decode cL_air 15 = .ok (.astore 5, 2) by decide +kernel) (by decide) (show decode cL_air 17 = .ok (.iconst 1, 1) by decide +kernel) (show decode cL_air 18 = .ok (.ireturn, 1) by decide +kernel) ?_⟩
      · rw [e0]
        exact lc_hit hpl hown (hts _ (TBL_tb (List.mem_append_right _ (List.mem_append_left _ (List.mem_of_getElem? (i := 225) rfl))) rfl)) e1 (by decide) (by decide) hth
      · exact ⟨1, y, by decide, rfl, ht, fun z => absurd z (by decide), by rw [oJ_1] at hS; exact hS⟩
    · have hc0 : c0 = 2 := by omega
      subst hc0
      have hex := Option.some.inj hex
      subst hex
      refine ⟨19, fun th hth => ?_, ty_hd2 C (show decode cL_air 19 = .ok (.astore 5, 2) by decide +kernel) (by decide) (show decode cL_air 21 = .ok (.iconst 2, 1) by decide +kernel) (show decode cL_air 22 = .ok (.ireturn, 1) by decide +kernel) ?_⟩
      · rw [e0]
        have q := lc_hit (pc := 7) (x := x2) (r := []) hpl hown (hts _ (TBL_tb (List.mem_append_right _ (List.mem_append_right _ (List.mem_append_left _ (List.mem_of_getElem? (i := 86) rfl)))) rfl)) e2 (by decide) (by decide) hth
        exact ⟨lc_pass hpl hown (hts _ (TBL_tb (List.mem_append_right _ (List.mem_append_left _ (List.mem_of_getElem? (i := 225) rfl))) rfl)) e1 (by decide) (by decide) hth (hnc _ (by decide)) q.1, q.2⟩
      · exact ⟨2, y, by decide, rfl, ht, fun z => absurd z (by decide), by rw [oJ_2] at hS; exact hS⟩

theorem wr_row {n : Nat} {w : AW} (l : Launch) (E : AE) (h : Rel n w) (hn : n < 512) (p0 p1 p2 : Int32) : MW l E yL_row cL_row 6 [(0, 12, 15, 34)] 8 136 1 6 [.ref 200, .int p0, .int p1, .int p2, .ref 222] w (WQ sp_X12_row [.int p0, .int p1, .int p2] n) := by
  refine MW.of (S := (RL, 6, some .int, false)) (by decide +kernel) rfl (show (5 : Nat) ≤ 6 by decide) ?_
  intro p e s m args below meth c ad0 C hpl htb hnc
  obtain ⟨hx, hb, hml, hown, hts, -⟩ := id C
  refine ty_aload C (show decode cL_row 0 = .ok (.aload 4, 2) by decide +kernel) rfl ?_
  refine ty_iconst C (show decode cL_row 2 = .ok (.iconst 0, 1) by decide +kernel) ?_
  refine ty_aload_n C (show decode cL_row 3 = .ok (.aload_n 0, 1) by decide +kernel) rfl ?_
  refine ty_iload_n C (show decode cL_row 4 = .ok (.iload_n 1, 1) by decide +kernel) rfl ?_
  refine ty_iload_n C (show decode cL_row 5 = .ok (.iload_n 2, 1) by decide +kernel) rfl ?_
  refine ty_iload_n C (show decode cL_row 6 = .ok (.iload_n 3, 1) by decide +kernel) rfl ?_
  refine ty_call (r := [.int p0, .int p1, .int p2]) (t := [.int (Int32.ofInt 0), .ref 222]) (np := 3) C (show decode cL_row 7 = .ok (.invokevirtual 36, 3) by decide +kernel) h.ci.2.1.1 (ct_X11_row l E _ _ _ (pr_row h hn p0 p1 p2)) (by decide) (by decide) (TBL_tb (List.mem_append_right _ (List.mem_append_right _ (List.mem_append_left _ (List.mem_of_getElem? (i := 122) rfl)))) rfl) (TBL_tb (List.mem_append_left _ (List.mem_of_getElem? (i := 1) rfl)) rfl) (TBL_tb (List.mem_append_right _ (List.mem_append_right _ (List.mem_append_left _ (List.mem_of_getElem? (i := 119) rfl)))) rfl) ⟨by decide, by decide, by decide +kernel⟩ (TBL_tb (List.mem_append_right _ (List.mem_append_right _ (List.mem_append_left _ (List.mem_of_getElem? (i := 120) rfl)))) rfl) (TBL_tb (List.mem_append_right _ (List.mem_append_right _ (List.mem_append_left _ (List.mem_of_getElem? (i := 121) rfl)))) rfl) rfl rfl (by decide) (by decide) (by decide) (fun v w1 hq => ?_) (fun Ec w1 hq => ?_)
  · obtain ⟨ht, c0, y, ho, hS⟩ := hq
    rcases ho with ⟨ho, rfl⟩ | ⟨sx, ho, -⟩
    · have ho := Sum.inl.inj ho
      subst ho
      refine ty_i2l C (show decode cL_row 10 = .ok (.i2l, 1) by decide +kernel) ?_
      refine ty_lastore C (show decode cL_row 11 = .ok (.lastore, 1) by decide +kernel) ht.1 (by rw [ht.2.1]; exact vp_in_nI (show 0 < 1 by decide) (by decide)) ?_
      refine ty_goto C (g := 19) (show decode cL_row 12 = .ok (.goto 7, 3) by decide +kernel) (by decide) ?_
      refine ty_iconst C (show decode cL_row 19 = .ok (.iconst 0, 1) by decide +kernel) ?_
      refine ty_ireturn C (show decode cL_row 20 = .ok (.ireturn, 1) by decide +kernel) ?_
      rw [oJ_0] at hS
      exact ⟨0, y, by decide, rfl, ht, fun _ => rfl, hS⟩
    · cases ho
  · obtain ⟨ht, c0, y, ho, hS⟩ := hq
    rcases ho with ⟨ho, -⟩ | ⟨sx, ho, g0, g2, hex⟩
    · cases ho
    have ho := Sum.inr.inj ho
    subst ho
    obtain ⟨x1, e0, e1⟩ := tab1 htb
    have hc0 : c0 = 1 := by
      rcases Nat.lt_or_ge c0 2 with z | z
      · omega
      · have z2 : c0 = 2 := by omega
        subst z2; cases hex
    subst hc0
    have hex := Option.some.inj hex
    subst hex
    refine ⟨15, fun th hth => ?_, ty_hd2 C (show decode cL_row 15 = .ok (.astore 5, 2) by decide +kernel) (by decide) (show decode cL_row 17 = .ok (.iconst 1, 1) by decide +kernel) (show decode cL_row 18 = .ok (.ireturn, 1) by decide +kernel) ?_⟩
    · rw [e0]
      exact lc_hit hpl hown (hts _ (TBL_tb (List.mem_append_right _ (List.mem_append_right _ (List.mem_append_left _ (List.mem_of_getElem? (i := 86) rfl)))) rfl)) e1 (by decide) (by decide) hth
    · exact ⟨1, y, by decide, rfl, ht, fun z => absurd z (by decide), by rw [oJ_1] at hS; exact hS⟩

theorem wr_put {n : Nat} {w : AW} (l : Launch) (E : AE) (h : Rel n w) (hn : n < 512) (p0 p1 p2 p3 : Int32) : MW l E yL_put cL_put 7 [(0, 14, 17, 34)] 8 137 1 6 [.ref 200, .int p0, .int p1, .int p2, .int p3, .ref 222] w (WQ sp_X12_put [.int p0, .int p1, .int p2, .int p3] n) := by
  refine MW.of (S := (RL, 7, some .int, false)) (by decide +kernel) rfl (show (6 : Nat) ≤ 7 by decide) ?_
  intro p e s m args below meth c ad0 C hpl htb hnc
  obtain ⟨hx, hb, hml, hown, hts, -⟩ := id C
  refine ty_aload C (show decode cL_put 0 = .ok (.aload 5, 2) by decide +kernel) rfl ?_
  refine ty_iconst C (show decode cL_put 2 = .ok (.iconst 0, 1) by decide +kernel) ?_
  refine ty_aload_n C (show decode cL_put 3 = .ok (.aload_n 0, 1) by decide +kernel) rfl ?_
  refine ty_iload_n C (show decode cL_put 4 = .ok (.iload_n 1, 1) by decide +kernel) rfl ?_
  refine ty_iload_n C (show decode cL_put 5 = .ok (.iload_n 2, 1) by decide +kernel) rfl ?_
  refine ty_iload_n C (show decode cL_put 6 = .ok (.iload_n 3, 1) by decide +kernel) rfl ?_
  refine ty_iload C (show decode cL_put 7 = .ok (.iload 4, 2) by decide +kernel) rfl ?_
  refine ty_call (r := [.int p0, .int p1, .int p2, .int p3]) (t := [.int (Int32.ofInt 0), .ref 222]) (np := 4) C (show decode cL_put 9 = .ok (.invokevirtual 39, 3) by decide +kernel) h.ci.2.1.1 (ct_X11_put l E _ _ _ (pr_put h hn p0 p1 p2 p3)) (by decide) (by decide) (TBL_tb (List.mem_append_right _ (List.mem_append_right _ (List.mem_append_left _ (List.mem_of_getElem? (i := 133) rfl)))) rfl) (TBL_tb (List.mem_append_left _ (List.mem_of_getElem? (i := 1) rfl)) rfl) (TBL_tb (List.mem_append_right _ (List.mem_append_right _ (List.mem_append_left _ (List.mem_of_getElem? (i := 130) rfl)))) rfl) ⟨by decide, by decide, by decide +kernel⟩ (TBL_tb (List.mem_append_right _ (List.mem_append_right _ (List.mem_append_left _ (List.mem_of_getElem? (i := 131) rfl)))) rfl) (TBL_tb (List.mem_append_right _ (List.mem_append_right _ (List.mem_append_left _ (List.mem_of_getElem? (i := 132) rfl)))) rfl) rfl rfl (by decide) (by decide) (by decide) (fun v w1 hq => ?_) (fun Ec w1 hq => ?_)
  · obtain ⟨ht, c0, y, ho, hS⟩ := hq
    rcases ho with ⟨ho, rfl⟩ | ⟨sx, ho, -⟩
    · have ho := Sum.inl.inj ho
      subst ho
      refine ty_i2l C (show decode cL_put 12 = .ok (.i2l, 1) by decide +kernel) ?_
      refine ty_lastore C (show decode cL_put 13 = .ok (.lastore, 1) by decide +kernel) ht.1 (by rw [ht.2.1]; exact vp_in_nI (show 0 < 1 by decide) (by decide)) ?_
      refine ty_goto C (g := 21) (show decode cL_put 14 = .ok (.goto 7, 3) by decide +kernel) (by decide) ?_
      refine ty_iconst C (show decode cL_put 21 = .ok (.iconst 0, 1) by decide +kernel) ?_
      refine ty_ireturn C (show decode cL_put 22 = .ok (.ireturn, 1) by decide +kernel) ?_
      rw [oJ_0] at hS
      exact ⟨0, y, by decide, rfl, ht, fun _ => rfl, hS⟩
    · cases ho
  · obtain ⟨ht, c0, y, ho, hS⟩ := hq
    rcases ho with ⟨ho, -⟩ | ⟨sx, ho, g0, g2, hex⟩
    · cases ho
    have ho := Sum.inr.inj ho
    subst ho
    obtain ⟨x1, e0, e1⟩ := tab1 htb
    have hc0 : c0 = 1 := by
      rcases Nat.lt_or_ge c0 2 with z | z
      · omega
      · have z2 : c0 = 2 := by omega
        subst z2; cases hex
    subst hc0
    have hex := Option.some.inj hex
    subst hex
    refine ⟨17, fun th hth => ?_, ty_hd2 C (show decode cL_put 17 = .ok (.astore 6, 2) by decide +kernel) (by decide) (show decode cL_put 19 = .ok (.iconst 1, 1) by decide +kernel) (show decode cL_put 20 = .ok (.ireturn, 1) by decide +kernel) ?_⟩
    · rw [e0]
      exact lc_hit hpl hown (hts _ (TBL_tb (List.mem_append_right _ (List.mem_append_right _ (List.mem_append_left _ (List.mem_of_getElem? (i := 86) rfl)))) rfl)) e1 (by decide) (by decide) hth
    · exact ⟨1, y, by decide, rfl, ht, fun z => absurd z (by decide), by rw [oJ_1] at hS; exact hS⟩

theorem wr_tear {n : Nat} {w : AW} (l : Launch) (E : AE) (h : Rel n w) (hn : n < 512) (p0 p1 : Int32) : MW l E yL_tear cL_tear 5 [(0, 10, 13, 34)] 8 135 1 6 [.ref 200, .int p0, .int p1, .ref 222] w (WQ sp_X12_tear [.int p0, .int p1] n) := by
  refine MW.of (S := (RL, 5, some .int, false)) (by decide +kernel) rfl (show (4 : Nat) ≤ 5 by decide) ?_
  intro p e s m args below meth c ad0 C hpl htb hnc
  obtain ⟨hx, hb, hml, hown, hts, -⟩ := id C
  refine ty_aload_n C (show decode cL_tear 0 = .ok (.aload_n 3, 1) by decide +kernel) rfl ?_
  refine ty_iconst C (show decode cL_tear 1 = .ok (.iconst 0, 1) by decide +kernel) ?_
  refine ty_aload_n C (show decode cL_tear 2 = .ok (.aload_n 0, 1) by decide +kernel) rfl ?_
  refine ty_iload_n C (show decode cL_tear 3 = .ok (.iload_n 1, 1) by decide +kernel) rfl ?_
  refine ty_iload_n C (show decode cL_tear 4 = .ok (.iload_n 2, 1) by decide +kernel) rfl ?_
  refine ty_call (r := [.int p0, .int p1]) (t := [.int (Int32.ofInt 0), .ref 222]) (np := 2) C (show decode cL_tear 5 = .ok (.invokevirtual 43, 3) by decide +kernel) h.ci.2.1.1 (ct_X11_tear l E _ _ _ (pr_tear h hn p0 p1)) (by decide) (by decide) (TBL_tb (List.mem_append_right _ (List.mem_append_right _ (List.mem_append_left _ (List.mem_of_getElem? (i := 152) rfl)))) rfl) (TBL_tb (List.mem_append_left _ (List.mem_of_getElem? (i := 1) rfl)) rfl) (TBL_tb (List.mem_append_right _ (List.mem_append_right _ (List.mem_append_left _ (List.mem_of_getElem? (i := 149) rfl)))) rfl) ⟨by decide, by decide, by decide +kernel⟩ (TBL_tb (List.mem_append_right _ (List.mem_append_right _ (List.mem_append_left _ (List.mem_of_getElem? (i := 150) rfl)))) rfl) (TBL_tb (List.mem_append_right _ (List.mem_append_right _ (List.mem_append_left _ (List.mem_of_getElem? (i := 151) rfl)))) rfl) rfl rfl (by decide) (by decide) (by decide) (fun v w1 hq => ?_) (fun Ec w1 hq => ?_)
  · obtain ⟨ht, c0, y, ho, hS⟩ := hq
    rcases ho with ⟨ho, rfl⟩ | ⟨sx, ho, -⟩
    · have ho := Sum.inl.inj ho
      subst ho
      refine ty_i2l C (show decode cL_tear 8 = .ok (.i2l, 1) by decide +kernel) ?_
      refine ty_lastore C (show decode cL_tear 9 = .ok (.lastore, 1) by decide +kernel) ht.1 (by rw [ht.2.1]; exact vp_in_nI (show 0 < 1 by decide) (by decide)) ?_
      refine ty_goto C (g := 17) (show decode cL_tear 10 = .ok (.goto 7, 3) by decide +kernel) (by decide) ?_
      refine ty_iconst C (show decode cL_tear 17 = .ok (.iconst 0, 1) by decide +kernel) ?_
      refine ty_ireturn C (show decode cL_tear 18 = .ok (.ireturn, 1) by decide +kernel) ?_
      rw [oJ_0] at hS
      exact ⟨0, y, by decide, rfl, ht, fun _ => rfl, hS⟩
    · cases ho
  · obtain ⟨ht, c0, y, ho, hS⟩ := hq
    rcases ho with ⟨ho, -⟩ | ⟨sx, ho, g0, g2, hex⟩
    · cases ho
    have ho := Sum.inr.inj ho
    subst ho
    obtain ⟨x1, e0, e1⟩ := tab1 htb
    have hc0 : c0 = 1 := by
      rcases Nat.lt_or_ge c0 2 with z | z
      · omega
      · have z2 : c0 = 2 := by omega
        subst z2; cases hex
    subst hc0
    have hex := Option.some.inj hex
    subst hex
    refine ⟨13, fun th hth => ?_, ty_hd2 C (show decode cL_tear 13 = .ok (.astore 4, 2) by decide +kernel) (by decide) (show decode cL_tear 15 = .ok (.iconst 1, 1) by decide +kernel) (show decode cL_tear 16 = .ok (.ireturn, 1) by decide +kernel) ?_⟩
    · rw [e0]
      exact lc_hit hpl hown (hts _ (TBL_tb (List.mem_append_right _ (List.mem_append_right _ (List.mem_append_left _ (List.mem_of_getElem? (i := 86) rfl)))) rfl)) e1 (by decide) (by decide) hth
    · exact ⟨1, y, by decide, rfl, ht, fun z => absurd z (by decide), by rw [oJ_1] at hS; exact hS⟩

theorem wr_loan {n : Nat} {w : AW} (l : Launch) (E : AE) (h : Rel n w) (hn : n < 512) (p0 p1 p2 : Int32) : MW l E yL_loan cL_loan 6 [(0, 12, 15, 13), (0, 12, 19, 49)] 10 241 28 3532 [.ref 200, .int p0, .int p1, .int p2, .ref 222] w (WQ sp_X12_loan [.int p0, .int p1, .int p2] n) := by
  refine MW.of (S := (RL, 6, some .int, false)) (by decide +kernel) rfl (show (5 : Nat) ≤ 6 by decide) ?_
  intro p e s m args below meth c ad0 C hpl htb hnc
  obtain ⟨hx, hb, hml, hown, hts, -⟩ := id C
  refine ty_aload C (show decode cL_loan 0 = .ok (.aload 4, 2) by decide +kernel) rfl ?_
  refine ty_iconst C (show decode cL_loan 2 = .ok (.iconst 0, 1) by decide +kernel) ?_
  refine ty_aload_n C (show decode cL_loan 3 = .ok (.aload_n 0, 1) by decide +kernel) rfl ?_
  refine ty_iload_n C (show decode cL_loan 4 = .ok (.iload_n 1, 1) by decide +kernel) rfl ?_
  refine ty_iload_n C (show decode cL_loan 5 = .ok (.iload_n 2, 1) by decide +kernel) rfl ?_
  refine ty_iload_n C (show decode cL_loan 6 = .ok (.iload_n 3, 1) by decide +kernel) rfl ?_
  refine ty_call (r := [.int p0, .int p1, .int p2]) (t := [.int (Int32.ofInt 0), .ref 222]) (np := 3) C (show decode cL_loan 7 = .ok (.invokevirtual 46, 3) by decide +kernel) h.ci.2.1.1 (ct_X11_loan l E _ _ _ (pr_loan h hn p0 p1 p2)) (by decide) (by decide) (TBL_tb (List.mem_append_right _ (List.mem_append_right _ (List.mem_append_left _ (List.mem_of_getElem? (i := 164) rfl)))) rfl) (TBL_tb (List.mem_append_left _ (List.mem_of_getElem? (i := 1) rfl)) rfl) (TBL_tb (List.mem_append_right _ (List.mem_append_right _ (List.mem_append_left _ (List.mem_of_getElem? (i := 161) rfl)))) rfl) ⟨by decide, by decide, by decide +kernel⟩ (TBL_tb (List.mem_append_right _ (List.mem_append_right _ (List.mem_append_left _ (List.mem_of_getElem? (i := 162) rfl)))) rfl) (TBL_tb (List.mem_append_right _ (List.mem_append_right _ (List.mem_append_left _ (List.mem_of_getElem? (i := 163) rfl)))) rfl) rfl rfl (by decide) (by decide) (by decide) (fun v w1 hq => ?_) (fun Ec w1 hq => ?_)
  · obtain ⟨ht, c0, y, ho, hS⟩ := hq
    rcases ho with ⟨ho, rfl⟩ | ⟨sx, ho, -⟩
    · have ho := Sum.inl.inj ho
      subst ho
      refine ty_i2l C (show decode cL_loan 10 = .ok (.i2l, 1) by decide +kernel) ?_
      refine ty_lastore C (show decode cL_loan 11 = .ok (.lastore, 1) by decide +kernel) ht.1 (by rw [ht.2.1]; exact vp_in_nI (show 0 < 1 by decide) (by decide)) ?_
      refine ty_goto C (g := 23) (show decode cL_loan 12 = .ok (.goto 11, 3) by decide +kernel) (by decide) ?_
      refine ty_iconst C (show decode cL_loan 23 = .ok (.iconst 0, 1) by decide +kernel) ?_
      refine ty_ireturn C (show decode cL_loan 24 = .ok (.ireturn, 1) by decide +kernel) ?_
      rw [oJ_0] at hS
      exact ⟨0, y, by decide, rfl, ht, fun _ => rfl, hS⟩
    · cases ho
  · obtain ⟨ht, c0, y, ho, hS⟩ := hq
    rcases ho with ⟨ho, -⟩ | ⟨sx, ho, g0, g2, hex⟩
    · cases ho
    have ho := Sum.inr.inj ho
    subst ho
    obtain ⟨x1, x2, e0, e1, e2⟩ := tab2 htb
    rcases Nat.lt_or_ge c0 2 with z | z
    · have hc0 : c0 = 1 := by omega
      subst hc0
      have hex := Option.some.inj hex
      subst hex
      refine ⟨15, fun th hth => ?_, ty_hd2 C (show decode cL_loan 15 = .ok (.astore 5, 2) by decide +kernel) (by decide) (show decode cL_loan 17 = .ok (.iconst 1, 1) by decide +kernel) (show decode cL_loan 18 = .ok (.ireturn, 1) by decide +kernel) ?_⟩
      · rw [e0]
        exact lc_hit hpl hown (hts _ (TBL_tb (List.mem_append_right _ (List.mem_append_left _ (List.mem_of_getElem? (i := 61) rfl))) rfl)) e1 (by decide) (by decide) hth
      · exact ⟨1, y, by decide, rfl, ht, fun z => absurd z (by decide), by rw [oJ_1] at hS; exact hS⟩
    · have hc0 : c0 = 2 := by omega
      subst hc0
      have hex := Option.some.inj hex
      subst hex
      refine ⟨19, fun th hth => ?_, ty_hd2 C (show decode cL_loan 19 = .ok (.astore 5, 2) by decide +kernel) (by decide) (show decode cL_loan 21 = .ok (.iconst 2, 1) by decide +kernel) (show decode cL_loan 22 = .ok (.ireturn, 1) by decide +kernel) ?_⟩
      · rw [e0]
        have q := lc_hit (pc := 7) (x := x2) (r := []) hpl hown (hts _ (TBL_tb (List.mem_append_right _ (List.mem_append_right _ (List.mem_append_left _ (List.mem_of_getElem? (i := 160) rfl)))) rfl)) e2 (by decide) (by decide) hth
        exact ⟨lc_pass hpl hown (hts _ (TBL_tb (List.mem_append_right _ (List.mem_append_left _ (List.mem_of_getElem? (i := 61) rfl))) rfl)) e1 (by decide) (by decide) hth (hnc _ (by decide)) q.1, q.2⟩
      · exact ⟨2, y, by decide, rfl, ht, fun z => absurd z (by decide), by rw [oJ_2] at hS; exact hS⟩

theorem wr_barred {n : Nat} {w : AW} (l : Launch) (E : AE) (h : Rel n w) (hn : n < 512) (p0 p1 p2 : Int32) : MW l E yL_barred cL_barred 6 [(0, 12, 15, 19), (0, 12, 19, 13)] 8 150 2 12 [.ref 200, .int p0, .int p1, .int p2, .ref 222] w (WQ sp_X12_barred [.int p0, .int p1, .int p2] n) := by
  refine MW.of (S := (RL, 6, some .int, false)) (by decide +kernel) rfl (show (5 : Nat) ≤ 6 by decide) ?_
  intro p e s m args below meth c ad0 C hpl htb hnc
  obtain ⟨hx, hb, hml, hown, hts, -⟩ := id C
  refine ty_aload C (show decode cL_barred 0 = .ok (.aload 4, 2) by decide +kernel) rfl ?_
  refine ty_iconst C (show decode cL_barred 2 = .ok (.iconst 0, 1) by decide +kernel) ?_
  refine ty_aload_n C (show decode cL_barred 3 = .ok (.aload_n 0, 1) by decide +kernel) rfl ?_
  refine ty_iload_n C (show decode cL_barred 4 = .ok (.iload_n 1, 1) by decide +kernel) rfl ?_
  refine ty_iload_n C (show decode cL_barred 5 = .ok (.iload_n 2, 1) by decide +kernel) rfl ?_
  refine ty_iload_n C (show decode cL_barred 6 = .ok (.iload_n 3, 1) by decide +kernel) rfl ?_
  refine ty_call (r := [.int p0, .int p1, .int p2]) (t := [.int (Int32.ofInt 0), .ref 222]) (np := 3) C (show decode cL_barred 7 = .ok (.invokevirtual 51, 3) by decide +kernel) h.ci.2.1.1 (ct_X11_barred l E _ _ _ (pr_barred h hn p0 p1 p2)) (by decide) (by decide) (TBL_tb (List.mem_append_right _ (List.mem_append_right _ (List.mem_append_right _ (List.mem_append_left _ (List.mem_of_getElem? (i := 119) rfl))))) rfl) (TBL_tb (List.mem_append_left _ (List.mem_of_getElem? (i := 1) rfl)) rfl) (TBL_tb (List.mem_append_right _ (List.mem_append_right _ (List.mem_append_right _ (List.mem_append_left _ (List.mem_of_getElem? (i := 116) rfl))))) rfl) ⟨by decide, by decide, by decide +kernel⟩ (TBL_tb (List.mem_append_right _ (List.mem_append_right _ (List.mem_append_right _ (List.mem_append_left _ (List.mem_of_getElem? (i := 117) rfl))))) rfl) (TBL_tb (List.mem_append_right _ (List.mem_append_right _ (List.mem_append_right _ (List.mem_append_left _ (List.mem_of_getElem? (i := 118) rfl))))) rfl) rfl rfl (by decide) (by decide) (by decide) (fun v w1 hq => ?_) (fun Ec w1 hq => ?_)
  · obtain ⟨ht, c0, y, ho, hS⟩ := hq
    rcases ho with ⟨ho, rfl⟩ | ⟨sx, ho, -⟩
    · have ho := Sum.inl.inj ho
      subst ho
      refine ty_i2l C (show decode cL_barred 10 = .ok (.i2l, 1) by decide +kernel) ?_
      refine ty_lastore C (show decode cL_barred 11 = .ok (.lastore, 1) by decide +kernel) ht.1 (by rw [ht.2.1]; exact vp_in_nI (show 0 < 1 by decide) (by decide)) ?_
      refine ty_goto C (g := 23) (show decode cL_barred 12 = .ok (.goto 11, 3) by decide +kernel) (by decide) ?_
      refine ty_iconst C (show decode cL_barred 23 = .ok (.iconst 0, 1) by decide +kernel) ?_
      refine ty_ireturn C (show decode cL_barred 24 = .ok (.ireturn, 1) by decide +kernel) ?_
      rw [oJ_0] at hS
      exact ⟨0, y, by decide, rfl, ht, fun _ => rfl, hS⟩
    · cases ho
  · obtain ⟨ht, c0, y, ho, hS⟩ := hq
    rcases ho with ⟨ho, -⟩ | ⟨sx, ho, g0, g2, hex⟩
    · cases ho
    have ho := Sum.inr.inj ho
    subst ho
    obtain ⟨x1, x2, e0, e1, e2⟩ := tab2 htb
    rcases Nat.lt_or_ge c0 2 with z | z
    · have hc0 : c0 = 1 := by omega
      subst hc0
      have hex := Option.some.inj hex
      subst hex
      refine ⟨15, fun th hth => ?_, ty_hd2 C (show decode cL_barred 15 = .ok (.astore 5, 2) by decide +kernel) (by decide) (show decode cL_barred 17 = .ok (.iconst 1, 1) by decide +kernel) (show decode cL_barred 18 = .ok (.ireturn, 1) by decide +kernel) ?_⟩
      · rw [e0]
        exact lc_hit hpl hown (hts _ (TBL_tb (List.mem_append_right _ (List.mem_append_left _ (List.mem_of_getElem? (i := 225) rfl))) rfl)) e1 (by decide) (by decide) hth
      · exact ⟨1, y, by decide, rfl, ht, fun z => absurd z (by decide), by rw [oJ_1] at hS; exact hS⟩
    · have hc0 : c0 = 2 := by omega
      subst hc0
      have hex := Option.some.inj hex
      subst hex
      refine ⟨19, fun th hth => ?_, ty_hd2 C (show decode cL_barred 19 = .ok (.astore 5, 2) by decide +kernel) (by decide) (show decode cL_barred 21 = .ok (.iconst 2, 1) by decide +kernel) (show decode cL_barred 22 = .ok (.ireturn, 1) by decide +kernel) ?_⟩
      · rw [e0]
        have q := lc_hit (pc := 7) (x := x2) (r := []) hpl hown (hts _ (TBL_tb (List.mem_append_right _ (List.mem_append_left _ (List.mem_of_getElem? (i := 61) rfl))) rfl)) e2 (by decide) (by decide) hth
        exact ⟨lc_pass hpl hown (hts _ (TBL_tb (List.mem_append_right _ (List.mem_append_left _ (List.mem_of_getElem? (i := 225) rfl))) rfl)) e1 (by decide) (by decide) hth (hnc _ (by decide)) q.1, q.2⟩
      · exact ⟨2, y, by decide, rfl, ht, fun z => absurd z (by decide), by rw [oJ_2] at hS; exact hS⟩

theorem wr_crate {n : Nat} {w : AW} (l : Launch) (E : AE) (h : Rel n w) (hn : n < 512) (p0 p1 : Int32) : MW l E yL_crate cL_crate 5 [(0, 10, 13, 13)] 8 193 4 3330 [.ref 200, .int p0, .int p1, .ref 222] w (WQ sp_X12_crate [.int p0, .int p1] n) := by
  refine MW.of (S := (RL, 5, some .int, false)) (by decide +kernel) rfl (show (4 : Nat) ≤ 5 by decide) ?_
  intro p e s m args below meth c ad0 C hpl htb hnc
  obtain ⟨hx, hb, hml, hown, hts, -⟩ := id C
  refine ty_aload_n C (show decode cL_crate 0 = .ok (.aload_n 3, 1) by decide +kernel) rfl ?_
  refine ty_iconst C (show decode cL_crate 1 = .ok (.iconst 0, 1) by decide +kernel) ?_
  refine ty_aload_n C (show decode cL_crate 2 = .ok (.aload_n 0, 1) by decide +kernel) rfl ?_
  refine ty_iload_n C (show decode cL_crate 3 = .ok (.iload_n 1, 1) by decide +kernel) rfl ?_
  refine ty_iload_n C (show decode cL_crate 4 = .ok (.iload_n 2, 1) by decide +kernel) rfl ?_
  refine ty_call (r := [.int p0, .int p1]) (t := [.int (Int32.ofInt 0), .ref 222]) (np := 2) C (show decode cL_crate 5 = .ok (.invokevirtual 54, 3) by decide +kernel) h.ci.2.1.1 (ct_X11_crate l E _ _ _ (pr_crate h hn p0 p1)) (by decide) (by decide) (TBL_tb (List.mem_append_right _ (List.mem_append_right _ (List.mem_append_right _ (List.mem_append_left _ (List.mem_of_getElem? (i := 140) rfl))))) rfl) (TBL_tb (List.mem_append_left _ (List.mem_of_getElem? (i := 1) rfl)) rfl) (TBL_tb (List.mem_append_right _ (List.mem_append_right _ (List.mem_append_right _ (List.mem_append_left _ (List.mem_of_getElem? (i := 137) rfl))))) rfl) ⟨by decide, by decide, by decide +kernel⟩ (TBL_tb (List.mem_append_right _ (List.mem_append_right _ (List.mem_append_right _ (List.mem_append_left _ (List.mem_of_getElem? (i := 138) rfl))))) rfl) (TBL_tb (List.mem_append_right _ (List.mem_append_right _ (List.mem_append_right _ (List.mem_append_left _ (List.mem_of_getElem? (i := 139) rfl))))) rfl) rfl rfl (by decide) (by decide) (by decide) (fun v w1 hq => ?_) (fun Ec w1 hq => ?_)
  · obtain ⟨ht, c0, y, ho, hS⟩ := hq
    rcases ho with ⟨ho, rfl⟩ | ⟨sx, ho, -⟩
    · have ho := Sum.inl.inj ho
      subst ho
      refine ty_i2l C (show decode cL_crate 8 = .ok (.i2l, 1) by decide +kernel) ?_
      refine ty_lastore C (show decode cL_crate 9 = .ok (.lastore, 1) by decide +kernel) ht.1 (by rw [ht.2.1]; exact vp_in_nI (show 0 < 1 by decide) (by decide)) ?_
      refine ty_goto C (g := 17) (show decode cL_crate 10 = .ok (.goto 7, 3) by decide +kernel) (by decide) ?_
      refine ty_iconst C (show decode cL_crate 17 = .ok (.iconst 0, 1) by decide +kernel) ?_
      refine ty_ireturn C (show decode cL_crate 18 = .ok (.ireturn, 1) by decide +kernel) ?_
      rw [oJ_0] at hS
      exact ⟨0, y, by decide, rfl, ht, fun _ => rfl, hS⟩
    · cases ho
  · obtain ⟨ht, c0, y, ho, hS⟩ := hq
    rcases ho with ⟨ho, -⟩ | ⟨sx, ho, g0, g2, hex⟩
    · cases ho
    have ho := Sum.inr.inj ho
    subst ho
    obtain ⟨x1, e0, e1⟩ := tab1 htb
    have hc0 : c0 = 1 := by
      rcases Nat.lt_or_ge c0 2 with z | z
      · omega
      · have z2 : c0 = 2 := by omega
        subst z2; cases hex
    subst hc0
    have hex := Option.some.inj hex
    subst hex
    refine ⟨13, fun th hth => ?_, ty_hd2 C (show decode cL_crate 13 = .ok (.astore 4, 2) by decide +kernel) (by decide) (show decode cL_crate 15 = .ok (.iconst 1, 1) by decide +kernel) (show decode cL_crate 16 = .ok (.ireturn, 1) by decide +kernel) ?_⟩
    · rw [e0]
      exact lc_hit hpl hown (hts _ (TBL_tb (List.mem_append_right _ (List.mem_append_left _ (List.mem_of_getElem? (i := 61) rfl))) rfl)) e1 (by decide) (by decide) hth
    · exact ⟨1, y, by decide, rfl, ht, fun z => absurd z (by decide), by rw [oJ_1] at hS; exact hS⟩

theorem wr_pack {n : Nat} {w : AW} (l : Launch) (E : AE) (h : Rel n w) (hn : n < 512) (p0 p1 : Int32) : MW l E yL_pack cL_pack 5 [(0, 10, 13, 19)] 9 218 5 6642 [.ref 200, .int p0, .int p1, .ref 222] w (WQ sp_X12_pack [.int p0, .int p1] n) := by
  refine MW.of (S := (RL, 5, some .int, false)) (by decide +kernel) rfl (show (4 : Nat) ≤ 5 by decide) ?_
  intro p e s m args below meth c ad0 C hpl htb hnc
  obtain ⟨hx, hb, hml, hown, hts, -⟩ := id C
  refine ty_aload_n C (show decode cL_pack 0 = .ok (.aload_n 3, 1) by decide +kernel) rfl ?_
  refine ty_iconst C (show decode cL_pack 1 = .ok (.iconst 0, 1) by decide +kernel) ?_
  refine ty_aload_n C (show decode cL_pack 2 = .ok (.aload_n 0, 1) by decide +kernel) rfl ?_
  refine ty_iload_n C (show decode cL_pack 3 = .ok (.iload_n 1, 1) by decide +kernel) rfl ?_
  refine ty_iload_n C (show decode cL_pack 4 = .ok (.iload_n 2, 1) by decide +kernel) rfl ?_
  refine ty_call (r := [.int p0, .int p1]) (t := [.int (Int32.ofInt 0), .ref 222]) (np := 2) C (show decode cL_pack 5 = .ok (.invokevirtual 57, 3) by decide +kernel) h.ci.2.1.1 (ct_X11_pack l E _ _ _ (pr_pack h hn p0 p1)) (by decide) (by decide) (TBL_tb (List.mem_append_right _ (List.mem_append_right _ (List.mem_append_right _ (List.mem_append_left _ (List.mem_of_getElem? (i := 173) rfl))))) rfl) (TBL_tb (List.mem_append_left _ (List.mem_of_getElem? (i := 1) rfl)) rfl) (TBL_tb (List.mem_append_right _ (List.mem_append_right _ (List.mem_append_right _ (List.mem_append_left _ (List.mem_of_getElem? (i := 170) rfl))))) rfl) ⟨by decide, by decide, by decide +kernel⟩ (TBL_tb (List.mem_append_right _ (List.mem_append_right _ (List.mem_append_right _ (List.mem_append_left _ (List.mem_of_getElem? (i := 171) rfl))))) rfl) (TBL_tb (List.mem_append_right _ (List.mem_append_right _ (List.mem_append_right _ (List.mem_append_left _ (List.mem_of_getElem? (i := 172) rfl))))) rfl) rfl rfl (by decide) (by decide) (by decide) (fun v w1 hq => ?_) (fun Ec w1 hq => ?_)
  · obtain ⟨ht, c0, y, ho, hS⟩ := hq
    rcases ho with ⟨ho, rfl⟩ | ⟨sx, ho, -⟩
    · have ho := Sum.inl.inj ho
      subst ho
      refine ty_i2l C (show decode cL_pack 8 = .ok (.i2l, 1) by decide +kernel) ?_
      refine ty_lastore C (show decode cL_pack 9 = .ok (.lastore, 1) by decide +kernel) ht.1 (by rw [ht.2.1]; exact vp_in_nI (show 0 < 1 by decide) (by decide)) ?_
      refine ty_goto C (g := 17) (show decode cL_pack 10 = .ok (.goto 7, 3) by decide +kernel) (by decide) ?_
      refine ty_iconst C (show decode cL_pack 17 = .ok (.iconst 0, 1) by decide +kernel) ?_
      refine ty_ireturn C (show decode cL_pack 18 = .ok (.ireturn, 1) by decide +kernel) ?_
      rw [oJ_0] at hS
      exact ⟨0, y, by decide, rfl, ht, fun _ => rfl, hS⟩
    · cases ho
  · obtain ⟨ht, c0, y, ho, hS⟩ := hq
    rcases ho with ⟨ho, -⟩ | ⟨sx, ho, g0, g2, hex⟩
    · cases ho
    have ho := Sum.inr.inj ho
    subst ho
    obtain ⟨x1, e0, e1⟩ := tab1 htb
    have hc0 : c0 = 1 := by
      rcases Nat.lt_or_ge c0 2 with z | z
      · omega
      · have z2 : c0 = 2 := by omega
        subst z2; cases hex
    subst hc0
    have hex := Option.some.inj hex
    subst hex
    refine ⟨13, fun th hth => ?_, ty_hd2 C (show decode cL_pack 13 = .ok (.astore 4, 2) by decide +kernel) (by decide) (show decode cL_pack 15 = .ok (.iconst 1, 1) by decide +kernel) (show decode cL_pack 16 = .ok (.ireturn, 1) by decide +kernel) ?_⟩
    · rw [e0]
      exact lc_hit hpl hown (hts _ (TBL_tb (List.mem_append_right _ (List.mem_append_left _ (List.mem_of_getElem? (i := 225) rfl))) rfl)) e1 (by decide) (by decide) hth
    · exact ⟨1, y, by decide, rfl, ht, fun z => absurd z (by decide), by rw [oJ_1] at hS; exact hS⟩

theorem wr_send {n : Nat} {w : AW} (l : Launch) (E : AE) (h : Rel n w) (hn : n < 512) (p0 p1 p2 : Int32) : MW l E yL_send cL_send 6 [(0, 12, 15, 19), (0, 12, 19, 13)] 8 135 2 12 [.ref 200, .int p0, .int p1, .int p2, .ref 222] w (WQ sp_X12_send [.int p0, .int p1, .int p2] n) := by
  refine MW.of (S := (RL, 6, some .int, false)) (by decide +kernel) rfl (show (5 : Nat) ≤ 6 by decide) ?_
  intro p e s m args below meth c ad0 C hpl htb hnc
  obtain ⟨hx, hb, hml, hown, hts, -⟩ := id C
  refine ty_aload C (show decode cL_send 0 = .ok (.aload 4, 2) by decide +kernel) rfl ?_
  refine ty_iconst C (show decode cL_send 2 = .ok (.iconst 0, 1) by decide +kernel) ?_
  refine ty_aload_n C (show decode cL_send 3 = .ok (.aload_n 0, 1) by decide +kernel) rfl ?_
  refine ty_iload_n C (show decode cL_send 4 = .ok (.iload_n 1, 1) by decide +kernel) rfl ?_
  refine ty_iload_n C (show decode cL_send 5 = .ok (.iload_n 2, 1) by decide +kernel) rfl ?_
  refine ty_iload_n C (show decode cL_send 6 = .ok (.iload_n 3, 1) by decide +kernel) rfl ?_
  refine ty_call (r := [.int p0, .int p1, .int p2]) (t := [.int (Int32.ofInt 0), .ref 222]) (np := 3) C (show decode cL_send 7 = .ok (.invokevirtual 60, 3) by decide +kernel) h.ci.2.1.1 (ct_X11_send l E _ _ _ (pr_send h hn p0 p1 p2)) (by decide) (by decide) (TBL_tb (List.mem_append_right _ (List.mem_append_right _ (List.mem_append_right _ (List.mem_append_left _ (List.mem_of_getElem? (i := 196) rfl))))) rfl) (TBL_tb (List.mem_append_left _ (List.mem_of_getElem? (i := 1) rfl)) rfl) (TBL_tb (List.mem_append_right _ (List.mem_append_right _ (List.mem_append_right _ (List.mem_append_left _ (List.mem_of_getElem? (i := 193) rfl))))) rfl) ⟨by decide, by decide, by decide +kernel⟩ (TBL_tb (List.mem_append_right _ (List.mem_append_right _ (List.mem_append_right _ (List.mem_append_left _ (List.mem_of_getElem? (i := 194) rfl))))) rfl) (TBL_tb (List.mem_append_right _ (List.mem_append_right _ (List.mem_append_right _ (List.mem_append_left _ (List.mem_of_getElem? (i := 195) rfl))))) rfl) rfl rfl (by decide) (by decide) (by decide) (fun v w1 hq => ?_) (fun Ec w1 hq => ?_)
  · obtain ⟨ht, c0, y, ho, hS⟩ := hq
    rcases ho with ⟨ho, rfl⟩ | ⟨sx, ho, -⟩
    · have ho := Sum.inl.inj ho
      subst ho
      refine ty_i2l C (show decode cL_send 10 = .ok (.i2l, 1) by decide +kernel) ?_
      refine ty_lastore C (show decode cL_send 11 = .ok (.lastore, 1) by decide +kernel) ht.1 (by rw [ht.2.1]; exact vp_in_nI (show 0 < 1 by decide) (by decide)) ?_
      refine ty_goto C (g := 23) (show decode cL_send 12 = .ok (.goto 11, 3) by decide +kernel) (by decide) ?_
      refine ty_iconst C (show decode cL_send 23 = .ok (.iconst 0, 1) by decide +kernel) ?_
      refine ty_ireturn C (show decode cL_send 24 = .ok (.ireturn, 1) by decide +kernel) ?_
      rw [oJ_0] at hS
      exact ⟨0, y, by decide, rfl, ht, fun _ => rfl, hS⟩
    · cases ho
  · obtain ⟨ht, c0, y, ho, hS⟩ := hq
    rcases ho with ⟨ho, -⟩ | ⟨sx, ho, g0, g2, hex⟩
    · cases ho
    have ho := Sum.inr.inj ho
    subst ho
    obtain ⟨x1, x2, e0, e1, e2⟩ := tab2 htb
    rcases Nat.lt_or_ge c0 2 with z | z
    · have hc0 : c0 = 1 := by omega
      subst hc0
      have hex := Option.some.inj hex
      subst hex
      refine ⟨15, fun th hth => ?_, ty_hd2 C (show decode cL_send 15 = .ok (.astore 5, 2) by decide +kernel) (by decide) (show decode cL_send 17 = .ok (.iconst 1, 1) by decide +kernel) (show decode cL_send 18 = .ok (.ireturn, 1) by decide +kernel) ?_⟩
      · rw [e0]
        exact lc_hit hpl hown (hts _ (TBL_tb (List.mem_append_right _ (List.mem_append_left _ (List.mem_of_getElem? (i := 225) rfl))) rfl)) e1 (by decide) (by decide) hth
      · exact ⟨1, y, by decide, rfl, ht, fun z => absurd z (by decide), by rw [oJ_1] at hS; exact hS⟩
    · have hc0 : c0 = 2 := by omega
      subst hc0
      have hex := Option.some.inj hex
      subst hex
      refine ⟨19, fun th hth => ?_, ty_hd2 C (show decode cL_send 19 = .ok (.astore 5, 2) by decide +kernel) (by decide) (show decode cL_send 21 = .ok (.iconst 2, 1) by decide +kernel) (show decode cL_send 22 = .ok (.ireturn, 1) by decide +kernel) ?_⟩
      · rw [e0]
        have q := lc_hit (pc := 7) (x := x2) (r := []) hpl hown (hts _ (TBL_tb (List.mem_append_right _ (List.mem_append_left _ (List.mem_of_getElem? (i := 61) rfl))) rfl)) e2 (by decide) (by decide) hth
        exact ⟨lc_pass hpl hown (hts _ (TBL_tb (List.mem_append_right _ (List.mem_append_left _ (List.mem_of_getElem? (i := 225) rfl))) rfl)) e1 (by decide) (by decide) hth (hnc _ (by decide)) q.1, q.2⟩
      · exact ⟨2, y, by decide, rfl, ht, fun z => absurd z (by decide), by rw [oJ_2] at hS; exact hS⟩

theorem wr_unpack {n : Nat} {w : AW} (l : Launch) (E : AE) (h : Rel n w) (hn : n < 512) (p0 : Int32) : MW l E yL_unpack cL_unpack 4 [(0, 9, 12, 19)] 9 218 9 13286 [.ref 200, .int p0, .ref 222] w (WQ sp_X12_unpack [.int p0] n) := by
  refine MW.of (S := (RL, 4, some .int, false)) (by decide +kernel) rfl (show (3 : Nat) ≤ 4 by decide) ?_
  intro p e s m args below meth c ad0 C hpl htb hnc
  obtain ⟨hx, hb, hml, hown, hts, -⟩ := id C
  refine ty_aload_n C (show decode cL_unpack 0 = .ok (.aload_n 2, 1) by decide +kernel) rfl ?_
  refine ty_iconst C (show decode cL_unpack 1 = .ok (.iconst 0, 1) by decide +kernel) ?_
  refine ty_aload_n C (show decode cL_unpack 2 = .ok (.aload_n 0, 1) by decide +kernel) rfl ?_
  refine ty_iload_n C (show decode cL_unpack 3 = .ok (.iload_n 1, 1) by decide +kernel) rfl ?_
  refine ty_call (r := [.int p0]) (t := [.int (Int32.ofInt 0), .ref 222]) (np := 1) C (show decode cL_unpack 4 = .ok (.invokevirtual 63, 3) by decide +kernel) h.ci.2.1.1 (ct_X11_unpack l E _ _ _ (pr_unpack h hn p0)) (by decide) (by decide) (TBL_tb (List.mem_append_right _ (List.mem_append_right _ (List.mem_append_right _ (List.mem_append_left _ (List.mem_of_getElem? (i := 207) rfl))))) rfl) (TBL_tb (List.mem_append_left _ (List.mem_of_getElem? (i := 1) rfl)) rfl) (TBL_tb (List.mem_append_right _ (List.mem_append_right _ (List.mem_append_right _ (List.mem_append_left _ (List.mem_of_getElem? (i := 204) rfl))))) rfl) ⟨by decide, by decide, by decide +kernel⟩ (TBL_tb (List.mem_append_right _ (List.mem_append_right _ (List.mem_append_right _ (List.mem_append_left _ (List.mem_of_getElem? (i := 205) rfl))))) rfl) (TBL_tb (List.mem_append_right _ (List.mem_append_right _ (List.mem_append_right _ (List.mem_append_left _ (List.mem_of_getElem? (i := 206) rfl))))) rfl) rfl rfl (by decide) (by decide) (by decide) (fun v w1 hq => ?_) (fun Ec w1 hq => ?_)
  · obtain ⟨ht, c0, y, ho, hS⟩ := hq
    rcases ho with ⟨ho, rfl⟩ | ⟨sx, ho, -⟩
    · have ho := Sum.inl.inj ho
      subst ho
      refine ty_i2l C (show decode cL_unpack 7 = .ok (.i2l, 1) by decide +kernel) ?_
      refine ty_lastore C (show decode cL_unpack 8 = .ok (.lastore, 1) by decide +kernel) ht.1 (by rw [ht.2.1]; exact vp_in_nI (show 0 < 1 by decide) (by decide)) ?_
      refine ty_goto C (g := 15) (show decode cL_unpack 9 = .ok (.goto 6, 3) by decide +kernel) (by decide) ?_
      refine ty_iconst C (show decode cL_unpack 15 = .ok (.iconst 0, 1) by decide +kernel) ?_
      refine ty_ireturn C (show decode cL_unpack 16 = .ok (.ireturn, 1) by decide +kernel) ?_
      rw [oJ_0] at hS
      exact ⟨0, y, by decide, rfl, ht, fun _ => rfl, hS⟩
    · cases ho
  · obtain ⟨ht, c0, y, ho, hS⟩ := hq
    rcases ho with ⟨ho, -⟩ | ⟨sx, ho, g0, g2, hex⟩
    · cases ho
    have ho := Sum.inr.inj ho
    subst ho
    obtain ⟨x1, e0, e1⟩ := tab1 htb
    have hc0 : c0 = 1 := by
      rcases Nat.lt_or_ge c0 2 with z | z
      · omega
      · have z2 : c0 = 2 := by omega
        subst z2; cases hex
    subst hc0
    have hex := Option.some.inj hex
    subst hex
    refine ⟨12, fun th hth => ?_, ty_hd1 C (show decode cL_unpack 12 = .ok (.astore_n 3, 1) by decide +kernel) (by decide) (show decode cL_unpack 13 = .ok (.iconst 1, 1) by decide +kernel) (show decode cL_unpack 14 = .ok (.ireturn, 1) by decide +kernel) ?_⟩
    · rw [e0]
      exact lc_hit hpl hown (hts _ (TBL_tb (List.mem_append_right _ (List.mem_append_left _ (List.mem_of_getElem? (i := 225) rfl))) rfl)) e1 (by decide) (by decide) hth
    · exact ⟨1, y, by decide, rfl, ht, fun z => absurd z (by decide), by rw [oJ_1] at hS; exact hS⟩

theorem wr_box {n : Nat} {w : AW} (l : Launch) (E : AE) (h : Rel n w) (hn : n < 512) (p0 p1 : Int32) : MW l E yL_box cL_box 5 [(0, 10, 13, 19), (0, 10, 17, 13)] 8 134 2 12 [.ref 200, .int p0, .int p1, .ref 222] w (WQ sp_X12_box [.int p0, .int p1] n) := by
  refine MW.of (S := (RL, 5, some .int, false)) (by decide +kernel) rfl (show (4 : Nat) ≤ 5 by decide) ?_
  intro p e s m args below meth c ad0 C hpl htb hnc
  obtain ⟨hx, hb, hml, hown, hts, -⟩ := id C
  refine ty_aload_n C (show decode cL_box 0 = .ok (.aload_n 3, 1) by decide +kernel) rfl ?_
  refine ty_iconst C (show decode cL_box 1 = .ok (.iconst 0, 1) by decide +kernel) ?_
  refine ty_aload_n C (show decode cL_box 2 = .ok (.aload_n 0, 1) by decide +kernel) rfl ?_
  refine ty_iload_n C (show decode cL_box 3 = .ok (.iload_n 1, 1) by decide +kernel) rfl ?_
  refine ty_iload_n C (show decode cL_box 4 = .ok (.iload_n 2, 1) by decide +kernel) rfl ?_
  refine ty_call (r := [.int p0, .int p1]) (t := [.int (Int32.ofInt 0), .ref 222]) (np := 2) C (show decode cL_box 5 = .ok (.invokevirtual 67, 3) by decide +kernel) h.ci.2.1.1 (ct_X11_box l E _ _ _ (pr_box h hn p0 p1)) (by decide) (by decide) (TBL_tb (List.mem_append_right _ (List.mem_append_right _ (List.mem_append_right _ (List.mem_append_left _ (List.mem_of_getElem? (i := 237) rfl))))) rfl) (TBL_tb (List.mem_append_left _ (List.mem_of_getElem? (i := 1) rfl)) rfl) (TBL_tb (List.mem_append_right _ (List.mem_append_right _ (List.mem_append_right _ (List.mem_append_left _ (List.mem_of_getElem? (i := 234) rfl))))) rfl) ⟨by decide, by decide, by decide +kernel⟩ (TBL_tb (List.mem_append_right _ (List.mem_append_right _ (List.mem_append_right _ (List.mem_append_left _ (List.mem_of_getElem? (i := 235) rfl))))) rfl) (TBL_tb (List.mem_append_right _ (List.mem_append_right _ (List.mem_append_right _ (List.mem_append_left _ (List.mem_of_getElem? (i := 236) rfl))))) rfl) rfl rfl (by decide) (by decide) (by decide) (fun v w1 hq => ?_) (fun Ec w1 hq => ?_)
  · obtain ⟨ht, c0, y, ho, hS⟩ := hq
    rcases ho with ⟨ho, rfl⟩ | ⟨sx, ho, -⟩
    · have ho := Sum.inl.inj ho
      subst ho
      refine ty_i2l C (show decode cL_box 8 = .ok (.i2l, 1) by decide +kernel) ?_
      refine ty_lastore C (show decode cL_box 9 = .ok (.lastore, 1) by decide +kernel) ht.1 (by rw [ht.2.1]; exact vp_in_nI (show 0 < 1 by decide) (by decide)) ?_
      refine ty_goto C (g := 21) (show decode cL_box 10 = .ok (.goto 11, 3) by decide +kernel) (by decide) ?_
      refine ty_iconst C (show decode cL_box 21 = .ok (.iconst 0, 1) by decide +kernel) ?_
      refine ty_ireturn C (show decode cL_box 22 = .ok (.ireturn, 1) by decide +kernel) ?_
      rw [oJ_0] at hS
      exact ⟨0, y, by decide, rfl, ht, fun _ => rfl, hS⟩
    · cases ho
  · obtain ⟨ht, c0, y, ho, hS⟩ := hq
    rcases ho with ⟨ho, -⟩ | ⟨sx, ho, g0, g2, hex⟩
    · cases ho
    have ho := Sum.inr.inj ho
    subst ho
    obtain ⟨x1, x2, e0, e1, e2⟩ := tab2 htb
    rcases Nat.lt_or_ge c0 2 with z | z
    · have hc0 : c0 = 1 := by omega
      subst hc0
      have hex := Option.some.inj hex
      subst hex
      refine ⟨13, fun th hth => ?_, ty_hd2 C (show decode cL_box 13 = .ok (.astore 4, 2) by decide +kernel) (by decide) (show decode cL_box 15 = .ok (.iconst 1, 1) by decide +kernel) (show decode cL_box 16 = .ok (.ireturn, 1) by decide +kernel) ?_⟩
      · rw [e0]
        exact lc_hit hpl hown (hts _ (TBL_tb (List.mem_append_right _ (List.mem_append_left _ (List.mem_of_getElem? (i := 225) rfl))) rfl)) e1 (by decide) (by decide) hth
      · exact ⟨1, y, by decide, rfl, ht, fun z => absurd z (by decide), by rw [oJ_1] at hS; exact hS⟩
    · have hc0 : c0 = 2 := by omega
      subst hc0
      have hex := Option.some.inj hex
      subst hex
      refine ⟨17, fun th hth => ?_, ty_hd2 C (show decode cL_box 17 = .ok (.astore 4, 2) by decide +kernel) (by decide) (show decode cL_box 19 = .ok (.iconst 2, 1) by decide +kernel) (show decode cL_box 20 = .ok (.ireturn, 1) by decide +kernel) ?_⟩
      · rw [e0]
        have q := lc_hit (pc := 5) (x := x2) (r := []) hpl hown (hts _ (TBL_tb (List.mem_append_right _ (List.mem_append_left _ (List.mem_of_getElem? (i := 61) rfl))) rfl)) e2 (by decide) (by decide) hth
        exact ⟨lc_pass hpl hown (hts _ (TBL_tb (List.mem_append_right _ (List.mem_append_left _ (List.mem_of_getElem? (i := 225) rfl))) rfl)) e1 (by decide) (by decide) hth (hnc _ (by decide)) q.1, q.2⟩
      · exact ⟨2, y, by decide, rfl, ht, fun z => absurd z (by decide), by rw [oJ_2] at hS; exact hS⟩

theorem wr_hang {n : Nat} {w : AW} (l : Launch) (E : AE) (h : Rel n w) (hn : n < 512) (p0 p1 : Int32) : MW l E yL_hang cL_hang 5 [(0, 10, 13, 19)] 9 218 5 6642 [.ref 200, .int p0, .int p1, .ref 222] w (WQ sp_X12_hang [.int p0, .int p1] n) := by
  refine MW.of (S := (RL, 5, some .int, false)) (by decide +kernel) rfl (show (4 : Nat) ≤ 5 by decide) ?_
  intro p e s m args below meth c ad0 C hpl htb hnc
  obtain ⟨hx, hb, hml, hown, hts, -⟩ := id C
  refine ty_aload_n C (show decode cL_hang 0 = .ok (.aload_n 3, 1) by decide +kernel) rfl ?_
  refine ty_iconst C (show decode cL_hang 1 = .ok (.iconst 0, 1) by decide +kernel) ?_
  refine ty_aload_n C (show decode cL_hang 2 = .ok (.aload_n 0, 1) by decide +kernel) rfl ?_
  refine ty_iload_n C (show decode cL_hang 3 = .ok (.iload_n 1, 1) by decide +kernel) rfl ?_
  refine ty_iload_n C (show decode cL_hang 4 = .ok (.iload_n 2, 1) by decide +kernel) rfl ?_
  refine ty_call (r := [.int p0, .int p1]) (t := [.int (Int32.ofInt 0), .ref 222]) (np := 2) C (show decode cL_hang 5 = .ok (.invokevirtual 70, 3) by decide +kernel) h.ci.2.1.1 (ct_X11_hang l E _ _ _ (pr_hang h hn p0 p1)) (by decide) (by decide) (TBL_tb (List.mem_append_right _ (List.mem_append_right _ (List.mem_append_right _ (List.mem_append_right _ (List.mem_append_left _ (List.mem_of_getElem? (i := 4) rfl)))))) rfl) (TBL_tb (List.mem_append_left _ (List.mem_of_getElem? (i := 1) rfl)) rfl) (TBL_tb (List.mem_append_right _ (List.mem_append_right _ (List.mem_append_right _ (List.mem_append_right _ (List.mem_append_left _ (List.mem_of_getElem? (i := 1) rfl)))))) rfl) ⟨by decide, by decide, by decide +kernel⟩ (TBL_tb (List.mem_append_right _ (List.mem_append_right _ (List.mem_append_right _ (List.mem_append_right _ (List.mem_append_left _ (List.mem_of_getElem? (i := 2) rfl)))))) rfl) (TBL_tb (List.mem_append_right _ (List.mem_append_right _ (List.mem_append_right _ (List.mem_append_right _ (List.mem_append_left _ (List.mem_of_getElem? (i := 3) rfl)))))) rfl) rfl rfl (by decide) (by decide) (by decide) (fun v w1 hq => ?_) (fun Ec w1 hq => ?_)
  · obtain ⟨ht, c0, y, ho, hS⟩ := hq
    rcases ho with ⟨ho, rfl⟩ | ⟨sx, ho, -⟩
    · have ho := Sum.inl.inj ho
      subst ho
      refine ty_i2l C (show decode cL_hang 8 = .ok (.i2l, 1) by decide +kernel) ?_
      refine ty_lastore C (show decode cL_hang 9 = .ok (.lastore, 1) by decide +kernel) ht.1 (by rw [ht.2.1]; exact vp_in_nI (show 0 < 1 by decide) (by decide)) ?_
      refine ty_goto C (g := 17) (show decode cL_hang 10 = .ok (.goto 7, 3) by decide +kernel) (by decide) ?_
      refine ty_iconst C (show decode cL_hang 17 = .ok (.iconst 0, 1) by decide +kernel) ?_
      refine ty_ireturn C (show decode cL_hang 18 = .ok (.ireturn, 1) by decide +kernel) ?_
      rw [oJ_0] at hS
      exact ⟨0, y, by decide, rfl, ht, fun _ => rfl, hS⟩
    · cases ho
  · obtain ⟨ht, c0, y, ho, hS⟩ := hq
    rcases ho with ⟨ho, -⟩ | ⟨sx, ho, g0, g2, hex⟩
    · cases ho
    have ho := Sum.inr.inj ho
    subst ho
    obtain ⟨x1, e0, e1⟩ := tab1 htb
    have hc0 : c0 = 1 := by
      rcases Nat.lt_or_ge c0 2 with z | z
      · omega
      · have z2 : c0 = 2 := by omega
        subst z2; cases hex
    subst hc0
    have hex := Option.some.inj hex
    subst hex
    refine ⟨13, fun th hth => ?_, ty_hd2 C (show decode cL_hang 13 = .ok (.astore 4, 2) by decide +kernel) (by decide) (show decode cL_hang 15 = .ok (.iconst 1, 1) by decide +kernel) (show decode cL_hang 16 = .ok (.ireturn, 1) by decide +kernel) ?_⟩
    · rw [e0]
      exact lc_hit hpl hown (hts _ (TBL_tb (List.mem_append_right _ (List.mem_append_left _ (List.mem_of_getElem? (i := 225) rfl))) rfl)) e1 (by decide) (by decide) hth
    · exact ⟨1, y, by decide, rfl, ht, fun z => absurd z (by decide), by rw [oJ_1] at hS; exact hS⟩

theorem wr_down {n : Nat} {w : AW} (l : Launch) (E : AE) (h : Rel n w) (hn : n < 512) (p0 : Int32) : MW l E yL_down cL_down 4 [(0, 9, 12, 19)] 9 217 3 3326 [.ref 200, .int p0, .ref 222] w (WQ sp_X12_down [.int p0] n) := by
  refine MW.of (S := (RL, 4, some .int, false)) (by decide +kernel) rfl (show (3 : Nat) ≤ 4 by decide) ?_
  intro p e s m args below meth c ad0 C hpl htb hnc
  obtain ⟨hx, hb, hml, hown, hts, -⟩ := id C
  refine ty_aload_n C (show decode cL_down 0 = .ok (.aload_n 2, 1) by decide +kernel) rfl ?_
  refine ty_iconst C (show decode cL_down 1 = .ok (.iconst 0, 1) by decide +kernel) ?_
  refine ty_aload_n C (show decode cL_down 2 = .ok (.aload_n 0, 1) by decide +kernel) rfl ?_
  refine ty_iload_n C (show decode cL_down 3 = .ok (.iload_n 1, 1) by decide +kernel) rfl ?_
  refine ty_call (r := [.int p0]) (t := [.int (Int32.ofInt 0), .ref 222]) (np := 1) C (show decode cL_down 4 = .ok (.invokevirtual 73, 3) by decide +kernel) h.ci.2.1.1 (ct_X11_down l E _ _ _ (pr_down h hn p0)) (by decide) (by decide) (TBL_tb (List.mem_append_right _ (List.mem_append_right _ (List.mem_append_right _ (List.mem_append_right _ (List.mem_append_left _ (List.mem_of_getElem? (i := 35) rfl)))))) rfl) (TBL_tb (List.mem_append_left _ (List.mem_of_getElem? (i := 1) rfl)) rfl) (TBL_tb (List.mem_append_right _ (List.mem_append_right _ (List.mem_append_right _ (List.mem_append_right _ (List.mem_append_left _ (List.mem_of_getElem? (i := 32) rfl)))))) rfl) ⟨by decide, by decide, by decide +kernel⟩ (TBL_tb (List.mem_append_right _ (List.mem_append_right _ (List.mem_append_right _ (List.mem_append_right _ (List.mem_append_left _ (List.mem_of_getElem? (i := 33) rfl)))))) rfl) (TBL_tb (List.mem_append_right _ (List.mem_append_right _ (List.mem_append_right _ (List.mem_append_right _ (List.mem_append_left _ (List.mem_of_getElem? (i := 34) rfl)))))) rfl) rfl rfl (by decide) (by decide) (by decide) (fun v w1 hq => ?_) (fun Ec w1 hq => ?_)
  · obtain ⟨ht, c0, y, ho, hS⟩ := hq
    rcases ho with ⟨ho, rfl⟩ | ⟨sx, ho, -⟩
    · have ho := Sum.inl.inj ho
      subst ho
      refine ty_i2l C (show decode cL_down 7 = .ok (.i2l, 1) by decide +kernel) ?_
      refine ty_lastore C (show decode cL_down 8 = .ok (.lastore, 1) by decide +kernel) ht.1 (by rw [ht.2.1]; exact vp_in_nI (show 0 < 1 by decide) (by decide)) ?_
      refine ty_goto C (g := 15) (show decode cL_down 9 = .ok (.goto 6, 3) by decide +kernel) (by decide) ?_
      refine ty_iconst C (show decode cL_down 15 = .ok (.iconst 0, 1) by decide +kernel) ?_
      refine ty_ireturn C (show decode cL_down 16 = .ok (.ireturn, 1) by decide +kernel) ?_
      rw [oJ_0] at hS
      exact ⟨0, y, by decide, rfl, ht, fun _ => rfl, hS⟩
    · cases ho
  · obtain ⟨ht, c0, y, ho, hS⟩ := hq
    rcases ho with ⟨ho, -⟩ | ⟨sx, ho, g0, g2, hex⟩
    · cases ho
    have ho := Sum.inr.inj ho
    subst ho
    obtain ⟨x1, e0, e1⟩ := tab1 htb
    have hc0 : c0 = 1 := by
      rcases Nat.lt_or_ge c0 2 with z | z
      · omega
      · have z2 : c0 = 2 := by omega
        subst z2; cases hex
    subst hc0
    have hex := Option.some.inj hex
    subst hex
    refine ⟨12, fun th hth => ?_, ty_hd1 C (show decode cL_down 12 = .ok (.astore_n 3, 1) by decide +kernel) (by decide) (show decode cL_down 13 = .ok (.iconst 1, 1) by decide +kernel) (show decode cL_down 14 = .ok (.ireturn, 1) by decide +kernel) ?_⟩
    · rw [e0]
      exact lc_hit hpl hown (hts _ (TBL_tb (List.mem_append_right _ (List.mem_append_left _ (List.mem_of_getElem? (i := 225) rfl))) rfl)) e1 (by decide) (by decide) hth
    · exact ⟨1, y, by decide, rfl, ht, fun z => absurd z (by decide), by rw [oJ_1] at hS; exact hS⟩

theorem wr_wall {n : Nat} {w : AW} (l : Launch) (E : AE) (h : Rel n w) (hn : n < 512) (p0 p1 : Int32) : MW l E yL_wall cL_wall 5 [(0, 10, 13, 19)] 8 134 1 6 [.ref 200, .int p0, .int p1, .ref 222] w (WQ sp_X12_wall [.int p0, .int p1] n) := by
  refine MW.of (S := (RL, 5, some .int, false)) (by decide +kernel) rfl (show (4 : Nat) ≤ 5 by decide) ?_
  intro p e s m args below meth c ad0 C hpl htb hnc
  obtain ⟨hx, hb, hml, hown, hts, -⟩ := id C
  refine ty_aload_n C (show decode cL_wall 0 = .ok (.aload_n 3, 1) by decide +kernel) rfl ?_
  refine ty_iconst C (show decode cL_wall 1 = .ok (.iconst 0, 1) by decide +kernel) ?_
  refine ty_aload_n C (show decode cL_wall 2 = .ok (.aload_n 0, 1) by decide +kernel) rfl ?_
  refine ty_iload_n C (show decode cL_wall 3 = .ok (.iload_n 1, 1) by decide +kernel) rfl ?_
  refine ty_iload_n C (show decode cL_wall 4 = .ok (.iload_n 2, 1) by decide +kernel) rfl ?_
  refine ty_call (r := [.int p0, .int p1]) (t := [.int (Int32.ofInt 0), .ref 222]) (np := 2) C (show decode cL_wall 5 = .ok (.invokevirtual 76, 3) by decide +kernel) h.ci.2.1.1 (ct_X11_wall l E _ _ _ (pr_wall h hn p0 p1)) (by decide) (by decide) (TBL_tb (List.mem_append_right _ (List.mem_append_right _ (List.mem_append_right _ (List.mem_append_right _ (List.mem_append_left _ (List.mem_of_getElem? (i := 55) rfl)))))) rfl) (TBL_tb (List.mem_append_left _ (List.mem_of_getElem? (i := 1) rfl)) rfl) (TBL_tb (List.mem_append_right _ (List.mem_append_right _ (List.mem_append_right _ (List.mem_append_right _ (List.mem_append_left _ (List.mem_of_getElem? (i := 52) rfl)))))) rfl) ⟨by decide, by decide, by decide +kernel⟩ (TBL_tb (List.mem_append_right _ (List.mem_append_right _ (List.mem_append_right _ (List.mem_append_right _ (List.mem_append_left _ (List.mem_of_getElem? (i := 53) rfl)))))) rfl) (TBL_tb (List.mem_append_right _ (List.mem_append_right _ (List.mem_append_right _ (List.mem_append_right _ (List.mem_append_left _ (List.mem_of_getElem? (i := 54) rfl)))))) rfl) rfl rfl (by decide) (by decide) (by decide) (fun v w1 hq => ?_) (fun Ec w1 hq => ?_)
  · obtain ⟨ht, c0, y, ho, hS⟩ := hq
    rcases ho with ⟨ho, rfl⟩ | ⟨sx, ho, -⟩
    · have ho := Sum.inl.inj ho
      subst ho
      refine ty_i2l C (show decode cL_wall 8 = .ok (.i2l, 1) by decide +kernel) ?_
      refine ty_lastore C (show decode cL_wall 9 = .ok (.lastore, 1) by decide +kernel) ht.1 (by rw [ht.2.1]; exact vp_in_nI (show 0 < 1 by decide) (by decide)) ?_
      refine ty_goto C (g := 17) (show decode cL_wall 10 = .ok (.goto 7, 3) by decide +kernel) (by decide) ?_
      refine ty_iconst C (show decode cL_wall 17 = .ok (.iconst 0, 1) by decide +kernel) ?_
      refine ty_ireturn C (show decode cL_wall 18 = .ok (.ireturn, 1) by decide +kernel) ?_
      rw [oJ_0] at hS
      exact ⟨0, y, by decide, rfl, ht, fun _ => rfl, hS⟩
    · cases ho
  · obtain ⟨ht, c0, y, ho, hS⟩ := hq
    rcases ho with ⟨ho, -⟩ | ⟨sx, ho, g0, g2, hex⟩
    · cases ho
    have ho := Sum.inr.inj ho
    subst ho
    obtain ⟨x1, e0, e1⟩ := tab1 htb
    have hc0 : c0 = 1 := by
      rcases Nat.lt_or_ge c0 2 with z | z
      · omega
      · have z2 : c0 = 2 := by omega
        subst z2; cases hex
    subst hc0
    have hex := Option.some.inj hex
    subst hex
    refine ⟨13, fun th hth => ?_, ty_hd2 C (show decode cL_wall 13 = .ok (.astore 4, 2) by decide +kernel) (by decide) (show decode cL_wall 15 = .ok (.iconst 1, 1) by decide +kernel) (show decode cL_wall 16 = .ok (.ireturn, 1) by decide +kernel) ?_⟩
    · rw [e0]
      exact lc_hit hpl hown (hts _ (TBL_tb (List.mem_append_right _ (List.mem_append_left _ (List.mem_of_getElem? (i := 225) rfl))) rfl)) e1 (by decide) (by decide) hth
    · exact ⟨1, y, by decide, rfl, ht, fun z => absurd z (by decide), by rw [oJ_1] at hS; exact hS⟩

theorem wr_wait {n : Nat} {w : AW} (l : Launch) (E : AE) (h : Rel n w) (hn : n < 512) (p0 : Int32) : MW l E yL_wait cL_wait 4 [(0, 9, 12, 13), (0, 9, 15, 49)] 8 146 2 12 [.ref 200, .int p0, .ref 222] w (WQ sp_X12_wait [.int p0] n) := by
  refine MW.of (S := (RL, 4, some .int, false)) (by decide +kernel) rfl (show (3 : Nat) ≤ 4 by decide) ?_
  intro p e s m args below meth c ad0 C hpl htb hnc
  obtain ⟨hx, hb, hml, hown, hts, -⟩ := id C
  refine ty_aload_n C (show decode cL_wait 0 = .ok (.aload_n 2, 1) by decide +kernel) rfl ?_
  refine ty_iconst C (show decode cL_wait 1 = .ok (.iconst 0, 1) by decide +kernel) ?_
  refine ty_aload_n C (show decode cL_wait 2 = .ok (.aload_n 0, 1) by decide +kernel) rfl ?_
  refine ty_iload_n C (show decode cL_wait 3 = .ok (.iload_n 1, 1) by decide +kernel) rfl ?_
  refine ty_call (r := [.int p0]) (t := [.int (Int32.ofInt 0), .ref 222]) (np := 1) C (show decode cL_wait 4 = .ok (.invokevirtual 79, 3) by decide +kernel) h.ci.2.1.1 (ct_X11_wait l E _ _ _ (pr_wait h hn p0)) (by decide) (by decide) (TBL_tb (List.mem_append_right _ (List.mem_append_right _ (List.mem_append_right _ (List.mem_append_right _ (List.mem_append_left _ (List.mem_of_getElem? (i := 62) rfl)))))) rfl) (TBL_tb (List.mem_append_left _ (List.mem_of_getElem? (i := 1) rfl)) rfl) (TBL_tb (List.mem_append_right _ (List.mem_append_right _ (List.mem_append_right _ (List.mem_append_right _ (List.mem_append_left _ (List.mem_of_getElem? (i := 59) rfl)))))) rfl) ⟨by decide, by decide, by decide +kernel⟩ (TBL_tb (List.mem_append_right _ (List.mem_append_right _ (List.mem_append_right _ (List.mem_append_right _ (List.mem_append_left _ (List.mem_of_getElem? (i := 60) rfl)))))) rfl) (TBL_tb (List.mem_append_right _ (List.mem_append_right _ (List.mem_append_right _ (List.mem_append_right _ (List.mem_append_left _ (List.mem_of_getElem? (i := 61) rfl)))))) rfl) rfl rfl (by decide) (by decide) (by decide) (fun v w1 hq => ?_) (fun Ec w1 hq => ?_)
  · obtain ⟨ht, c0, y, ho, hS⟩ := hq
    rcases ho with ⟨ho, rfl⟩ | ⟨sx, ho, -⟩
    · have ho := Sum.inl.inj ho
      subst ho
      refine ty_i2l C (show decode cL_wait 7 = .ok (.i2l, 1) by decide +kernel) ?_
      refine ty_lastore C (show decode cL_wait 8 = .ok (.lastore, 1) by decide +kernel) ht.1 (by rw [ht.2.1]; exact vp_in_nI (show 0 < 1 by decide) (by decide)) ?_
      refine ty_goto C (g := 18) (show decode cL_wait 9 = .ok (.goto 9, 3) by decide +kernel) (by decide) ?_
      refine ty_iconst C (show decode cL_wait 18 = .ok (.iconst 0, 1) by decide +kernel) ?_
      refine ty_ireturn C (show decode cL_wait 19 = .ok (.ireturn, 1) by decide +kernel) ?_
      rw [oJ_0] at hS
      exact ⟨0, y, by decide, rfl, ht, fun _ => rfl, hS⟩
    · cases ho
  · obtain ⟨ht, c0, y, ho, hS⟩ := hq
    rcases ho with ⟨ho, -⟩ | ⟨sx, ho, g0, g2, hex⟩
    · cases ho
    have ho := Sum.inr.inj ho
    subst ho
    obtain ⟨x1, x2, e0, e1, e2⟩ := tab2 htb
    rcases Nat.lt_or_ge c0 2 with z | z
    · have hc0 : c0 = 1 := by omega
      subst hc0
      have hex := Option.some.inj hex
      subst hex
      refine ⟨12, fun th hth => ?_, ty_hd1 C (show decode cL_wait 12 = .ok (.astore_n 3, 1) by decide +kernel) (by decide) (show decode cL_wait 13 = .ok (.iconst 1, 1) by decide +kernel) (show decode cL_wait 14 = .ok (.ireturn, 1) by decide +kernel) ?_⟩
      · rw [e0]
        exact lc_hit hpl hown (hts _ (TBL_tb (List.mem_append_right _ (List.mem_append_left _ (List.mem_of_getElem? (i := 61) rfl))) rfl)) e1 (by decide) (by decide) hth
      · exact ⟨1, y, by decide, rfl, ht, fun z => absurd z (by decide), by rw [oJ_1] at hS; exact hS⟩
    · have hc0 : c0 = 2 := by omega
      subst hc0
      have hex := Option.some.inj hex
      subst hex
      refine ⟨15, fun th hth => ?_, ty_hd1 C (show decode cL_wait 15 = .ok (.astore_n 3, 1) by decide +kernel) (by decide) (show decode cL_wait 16 = .ok (.iconst 2, 1) by decide +kernel) (show decode cL_wait 17 = .ok (.ireturn, 1) by decide +kernel) ?_⟩
      · rw [e0]
        have q := lc_hit (pc := 4) (x := x2) (r := []) hpl hown (hts _ (TBL_tb (List.mem_append_right _ (List.mem_append_right _ (List.mem_append_left _ (List.mem_of_getElem? (i := 160) rfl)))) rfl)) e2 (by decide) (by decide) hth
        exact ⟨lc_pass hpl hown (hts _ (TBL_tb (List.mem_append_right _ (List.mem_append_left _ (List.mem_of_getElem? (i := 61) rfl))) rfl)) e1 (by decide) (by decide) hth (hnc _ (by decide)) q.1, q.2⟩
      · exact ⟨2, y, by decide, rfl, ht, fun z => absurd z (by decide), by rw [oJ_2] at hS; exact hS⟩

theorem wr_unknown {n : Nat} {w : AW} (l : Launch) (E : AE) (h : Rel n w) (hn : n < 512) (p0 : Int32) : MW l E yL_unknown cL_unknown 4 [(0, 9, 12, 19)] 8 132 1 6 [.ref 200, .int p0, .ref 222] w (WQ sp_X12_unknown [.int p0] n) := by
  refine MW.of (S := (RL, 4, some .int, false)) (by decide +kernel) rfl (show (3 : Nat) ≤ 4 by decide) ?_
  intro p e s m args below meth c ad0 C hpl htb hnc
  obtain ⟨hx, hb, hml, hown, hts, -⟩ := id C
  refine ty_aload_n C (show decode cL_unknown 0 = .ok (.aload_n 2, 1) by decide +kernel) rfl ?_
  refine ty_iconst C (show decode cL_unknown 1 = .ok (.iconst 0, 1) by decide +kernel) ?_
  refine ty_aload_n C (show decode cL_unknown 2 = .ok (.aload_n 0, 1) by decide +kernel) rfl ?_
  refine ty_iload_n C (show decode cL_unknown 3 = .ok (.iload_n 1, 1) by decide +kernel) rfl ?_
  refine ty_call (r := [.int p0]) (t := [.int (Int32.ofInt 0), .ref 222]) (np := 1) C (show decode cL_unknown 4 = .ok (.invokevirtual 82, 3) by decide +kernel) h.ci.2.1.1 (ct_X11_unknown l E _ _ _ (pr_unknown h hn p0)) (by decide) (by decide) (TBL_tb (List.mem_append_right _ (List.mem_append_right _ (List.mem_append_right _ (List.mem_append_right _ (List.mem_append_left _ (List.mem_of_getElem? (i := 126) rfl)))))) rfl) (TBL_tb (List.mem_append_left _ (List.mem_of_getElem? (i := 1) rfl)) rfl) (TBL_tb (List.mem_append_right _ (List.mem_append_right _ (List.mem_append_right _ (List.mem_append_right _ (List.mem_append_left _ (List.mem_of_getElem? (i := 123) rfl)))))) rfl) ⟨by decide, by decide, by decide +kernel⟩ (TBL_tb (List.mem_append_right _ (List.mem_append_right _ (List.mem_append_right _ (List.mem_append_right _ (List.mem_append_left _ (List.mem_of_getElem? (i := 124) rfl)))))) rfl) (TBL_tb (List.mem_append_right _ (List.mem_append_right _ (List.mem_append_right _ (List.mem_append_right _ (List.mem_append_left _ (List.mem_of_getElem? (i := 125) rfl)))))) rfl) rfl rfl (by decide) (by decide) (by decide) (fun v w1 hq => ?_) (fun Ec w1 hq => ?_)
  · obtain ⟨ht, c0, y, ho, hS⟩ := hq
    rcases ho with ⟨ho, rfl⟩ | ⟨sx, ho, -⟩
    · have ho := Sum.inl.inj ho
      subst ho
      refine ty_i2l C (show decode cL_unknown 7 = .ok (.i2l, 1) by decide +kernel) ?_
      refine ty_lastore C (show decode cL_unknown 8 = .ok (.lastore, 1) by decide +kernel) ht.1 (by rw [ht.2.1]; exact vp_in_nI (show 0 < 1 by decide) (by decide)) ?_
      refine ty_goto C (g := 15) (show decode cL_unknown 9 = .ok (.goto 6, 3) by decide +kernel) (by decide) ?_
      refine ty_iconst C (show decode cL_unknown 15 = .ok (.iconst 0, 1) by decide +kernel) ?_
      refine ty_ireturn C (show decode cL_unknown 16 = .ok (.ireturn, 1) by decide +kernel) ?_
      rw [oJ_0] at hS
      exact ⟨0, y, by decide, rfl, ht, fun _ => rfl, hS⟩
    · cases ho
  · obtain ⟨ht, c0, y, ho, hS⟩ := hq
    rcases ho with ⟨ho, -⟩ | ⟨sx, ho, g0, g2, hex⟩
    · cases ho
    have ho := Sum.inr.inj ho
    subst ho
    obtain ⟨x1, e0, e1⟩ := tab1 htb
    have hc0 : c0 = 1 := by
      rcases Nat.lt_or_ge c0 2 with z | z
      · omega
      · have z2 : c0 = 2 := by omega
        subst z2; cases hex
    subst hc0
    have hex := Option.some.inj hex
    subst hex
    refine ⟨12, fun th hth => ?_, ty_hd1 C (show decode cL_unknown 12 = .ok (.astore_n 3, 1) by decide +kernel) (by decide) (show decode cL_unknown 13 = .ok (.iconst 1, 1) by decide +kernel) (show decode cL_unknown 14 = .ok (.ireturn, 1) by decide +kernel) ?_⟩
    · rw [e0]
      exact lc_hit hpl hown (hts _ (TBL_tb (List.mem_append_right _ (List.mem_append_left _ (List.mem_of_getElem? (i := 225) rfl))) rfl)) e1 (by decide) (by decide) hth
    · exact ⟨1, y, by decide, rfl, ht, fun z => absurd z (by decide), by rw [oJ_1] at hS; exact hS⟩

theorem wr_breach {n : Nat} {w : AW} (l : Launch) (E : AE) (h : Rel n w) (hn : n < 512) (p0 p1 : Int32) : MW l E yL_breach cL_breach 5 [(0, 10, 13, 13)] 8 132 1 6 [.ref 200, .int p0, .int p1, .ref 222] w (WQ sp_X12_breach [.int p0, .int p1] n) := by
  refine MW.of (S := (RL, 5, some .int, false)) (by decide +kernel) rfl (show (4 : Nat) ≤ 5 by decide) ?_
  intro p e s m args below meth c ad0 C hpl htb hnc
  obtain ⟨hx, hb, hml, hown, hts, -⟩ := id C
  refine ty_aload_n C (show decode cL_breach 0 = .ok (.aload_n 3, 1) by decide +kernel) rfl ?_
  refine ty_iconst C (show decode cL_breach 1 = .ok (.iconst 0, 1) by decide +kernel) ?_
  refine ty_aload_n C (show decode cL_breach 2 = .ok (.aload_n 0, 1) by decide +kernel) rfl ?_
  refine ty_iload_n C (show decode cL_breach 3 = .ok (.iload_n 1, 1) by decide +kernel) rfl ?_
  refine ty_iload_n C (show decode cL_breach 4 = .ok (.iload_n 2, 1) by decide +kernel) rfl ?_
  refine ty_call (r := [.int p0, .int p1]) (t := [.int (Int32.ofInt 0), .ref 222]) (np := 2) C (show decode cL_breach 5 = .ok (.invokevirtual 85, 3) by decide +kernel) h.ci.2.1.1 (ct_X11_breach l E _ _ _ (pr_breach h hn p0 p1)) (by decide) (by decide) (TBL_tb (List.mem_append_right _ (List.mem_append_right _ (List.mem_append_right _ (List.mem_append_right _ (List.mem_append_left _ (List.mem_of_getElem? (i := 133) rfl)))))) rfl) (TBL_tb (List.mem_append_left _ (List.mem_of_getElem? (i := 1) rfl)) rfl) (TBL_tb (List.mem_append_right _ (List.mem_append_right _ (List.mem_append_right _ (List.mem_append_right _ (List.mem_append_left _ (List.mem_of_getElem? (i := 130) rfl)))))) rfl) ⟨by decide, by decide, by decide +kernel⟩ (TBL_tb (List.mem_append_right _ (List.mem_append_right _ (List.mem_append_right _ (List.mem_append_right _ (List.mem_append_left _ (List.mem_of_getElem? (i := 131) rfl)))))) rfl) (TBL_tb (List.mem_append_right _ (List.mem_append_right _ (List.mem_append_right _ (List.mem_append_right _ (List.mem_append_left _ (List.mem_of_getElem? (i := 132) rfl)))))) rfl) rfl rfl (by decide) (by decide) (by decide) (fun v w1 hq => ?_) (fun Ec w1 hq => ?_)
  · obtain ⟨ht, c0, y, ho, hS⟩ := hq
    rcases ho with ⟨ho, rfl⟩ | ⟨sx, ho, -⟩
    · have ho := Sum.inl.inj ho
      subst ho
      refine ty_i2l C (show decode cL_breach 8 = .ok (.i2l, 1) by decide +kernel) ?_
      refine ty_lastore C (show decode cL_breach 9 = .ok (.lastore, 1) by decide +kernel) ht.1 (by rw [ht.2.1]; exact vp_in_nI (show 0 < 1 by decide) (by decide)) ?_
      refine ty_goto C (g := 17) (show decode cL_breach 10 = .ok (.goto 7, 3) by decide +kernel) (by decide) ?_
      refine ty_iconst C (show decode cL_breach 17 = .ok (.iconst 0, 1) by decide +kernel) ?_
      refine ty_ireturn C (show decode cL_breach 18 = .ok (.ireturn, 1) by decide +kernel) ?_
      rw [oJ_0] at hS
      exact ⟨0, y, by decide, rfl, ht, fun _ => rfl, hS⟩
    · cases ho
  · obtain ⟨ht, c0, y, ho, hS⟩ := hq
    rcases ho with ⟨ho, -⟩ | ⟨sx, ho, g0, g2, hex⟩
    · cases ho
    have ho := Sum.inr.inj ho
    subst ho
    obtain ⟨x1, e0, e1⟩ := tab1 htb
    have hc0 : c0 = 1 := by
      rcases Nat.lt_or_ge c0 2 with z | z
      · omega
      · have z2 : c0 = 2 := by omega
        subst z2; cases hex
    subst hc0
    have hex := Option.some.inj hex
    subst hex
    refine ⟨13, fun th hth => ?_, ty_hd2 C (show decode cL_breach 13 = .ok (.astore 4, 2) by decide +kernel) (by decide) (show decode cL_breach 15 = .ok (.iconst 1, 1) by decide +kernel) (show decode cL_breach 16 = .ok (.ireturn, 1) by decide +kernel) ?_⟩
    · rw [e0]
      exact lc_hit hpl hown (hts _ (TBL_tb (List.mem_append_right _ (List.mem_append_left _ (List.mem_of_getElem? (i := 61) rfl))) rfl)) e1 (by decide) (by decide) hth
    · exact ⟨1, y, by decide, rfl, ht, fun z => absurd z (by decide), by rw [oJ_1] at hS; exact hS⟩

theorem wr_step {n : Nat} {w : AW} (l : Launch) (E : AE) (h : Rel n w) (hn : n < 512) (p0 p1 : Int32) : MW l E yL_step cL_step 5 [(0, 10, 13, 19)] 10 214 100 600 [.ref 200, .int p0, .int p1, .ref 222] w (WQ sp_X12_step [.int p0, .int p1] n) := by
  refine MW.of (S := (RL, 5, some .int, false)) (by decide +kernel) rfl (show (4 : Nat) ≤ 5 by decide) ?_
  intro p e s m args below meth c ad0 C hpl htb hnc
  obtain ⟨hx, hb, hml, hown, hts, -⟩ := id C
  refine ty_aload_n C (show decode cL_step 0 = .ok (.aload_n 3, 1) by decide +kernel) rfl ?_
  refine ty_iconst C (show decode cL_step 1 = .ok (.iconst 0, 1) by decide +kernel) ?_
  refine ty_aload_n C (show decode cL_step 2 = .ok (.aload_n 0, 1) by decide +kernel) rfl ?_
  refine ty_iload_n C (show decode cL_step 3 = .ok (.iload_n 1, 1) by decide +kernel) rfl ?_
  refine ty_iload_n C (show decode cL_step 4 = .ok (.iload_n 2, 1) by decide +kernel) rfl ?_
  refine ty_call (r := [.int p0, .int p1]) (t := [.int (Int32.ofInt 0), .ref 222]) (np := 2) C (show decode cL_step 5 = .ok (.invokevirtual 88, 3) by decide +kernel) h.ci.2.1.1 (ct_X11_step l E _ _ _ (pr_step h hn p0 p1)) (by decide) (by decide) (TBL_tb (List.mem_append_right _ (List.mem_append_right _ (List.mem_append_right _ (List.mem_append_right _ (List.mem_append_left _ (List.mem_of_getElem? (i := 145) rfl)))))) rfl) (TBL_tb (List.mem_append_left _ (List.mem_of_getElem? (i := 1) rfl)) rfl) (TBL_tb (List.mem_append_right _ (List.mem_append_right _ (List.mem_append_right _ (List.mem_append_right _ (List.mem_append_left _ (List.mem_of_getElem? (i := 142) rfl)))))) rfl) ⟨by decide, by decide, by decide +kernel⟩ (TBL_tb (List.mem_append_right _ (List.mem_append_right _ (List.mem_append_right _ (List.mem_append_right _ (List.mem_append_left _ (List.mem_of_getElem? (i := 143) rfl)))))) rfl) (TBL_tb (List.mem_append_right _ (List.mem_append_right _ (List.mem_append_right _ (List.mem_append_right _ (List.mem_append_left _ (List.mem_of_getElem? (i := 144) rfl)))))) rfl) rfl rfl (by decide) (by decide) (by decide) (fun v w1 hq => ?_) (fun Ec w1 hq => ?_)
  · obtain ⟨ht, c0, y, ho, hS⟩ := hq
    rcases ho with ⟨ho, rfl⟩ | ⟨sx, ho, -⟩
    · have ho := Sum.inl.inj ho
      subst ho
      refine ty_i2l C (show decode cL_step 8 = .ok (.i2l, 1) by decide +kernel) ?_
      refine ty_lastore C (show decode cL_step 9 = .ok (.lastore, 1) by decide +kernel) ht.1 (by rw [ht.2.1]; exact vp_in_nI (show 0 < 1 by decide) (by decide)) ?_
      refine ty_goto C (g := 17) (show decode cL_step 10 = .ok (.goto 7, 3) by decide +kernel) (by decide) ?_
      refine ty_iconst C (show decode cL_step 17 = .ok (.iconst 0, 1) by decide +kernel) ?_
      refine ty_ireturn C (show decode cL_step 18 = .ok (.ireturn, 1) by decide +kernel) ?_
      rw [oJ_0] at hS
      exact ⟨0, y, by decide, rfl, ht, fun _ => rfl, hS⟩
    · cases ho
  · obtain ⟨ht, c0, y, ho, hS⟩ := hq
    rcases ho with ⟨ho, -⟩ | ⟨sx, ho, g0, g2, hex⟩
    · cases ho
    have ho := Sum.inr.inj ho
    subst ho
    obtain ⟨x1, e0, e1⟩ := tab1 htb
    have hc0 : c0 = 1 := by
      rcases Nat.lt_or_ge c0 2 with z | z
      · omega
      · have z2 : c0 = 2 := by omega
        subst z2; cases hex
    subst hc0
    have hex := Option.some.inj hex
    subst hex
    refine ⟨13, fun th hth => ?_, ty_hd2 C (show decode cL_step 13 = .ok (.astore 4, 2) by decide +kernel) (by decide) (show decode cL_step 15 = .ok (.iconst 1, 1) by decide +kernel) (show decode cL_step 16 = .ok (.ireturn, 1) by decide +kernel) ?_⟩
    · rw [e0]
      exact lc_hit hpl hown (hts _ (TBL_tb (List.mem_append_right _ (List.mem_append_left _ (List.mem_of_getElem? (i := 225) rfl))) rfl)) e1 (by decide) (by decide) hth
    · exact ⟨1, y, by decide, rfl, ht, fun z => absurd z (by decide), by rw [oJ_1] at hS; exact hS⟩

theorem wr_hanging {n : Nat} {w : AW} (l : Launch) (E : AE) (h : Rel n w) (hn : n < 512) (p0 p1 p2 : Int32) : MW l E yL_hanging cL_hanging 6 [(0, 12, 15, 19)] 10 215 100 600 [.ref 200, .int p0, .int p1, .int p2, .ref 222] w (WQ sp_X12_hanging [.int p0, .int p1, .int p2] n) := by
  refine MW.of (S := (RL, 6, some .int, false)) (by decide +kernel) rfl (show (5 : Nat) ≤ 6 by decide) ?_
  intro p e s m args below meth c ad0 C hpl htb hnc
  obtain ⟨hx, hb, hml, hown, hts, -⟩ := id C
  refine ty_aload C (show decode cL_hanging 0 = .ok (.aload 4, 2) by decide +kernel) rfl ?_
  refine ty_iconst C (show decode cL_hanging 2 = .ok (.iconst 0, 1) by decide +kernel) ?_
  refine ty_aload_n C (show decode cL_hanging 3 = .ok (.aload_n 0, 1) by decide +kernel) rfl ?_
  refine ty_iload_n C (show decode cL_hanging 4 = .ok (.iload_n 1, 1) by decide +kernel) rfl ?_
  refine ty_iload_n C (show decode cL_hanging 5 = .ok (.iload_n 2, 1) by decide +kernel) rfl ?_
  refine ty_iload_n C (show decode cL_hanging 6 = .ok (.iload_n 3, 1) by decide +kernel) rfl ?_
  refine ty_call (r := [.int p0, .int p1, .int p2]) (t := [.int (Int32.ofInt 0), .ref 222]) (np := 3) C (show decode cL_hanging 7 = .ok (.invokevirtual 91, 3) by decide +kernel) h.ci.2.1.1 (ct_X11_hanging l E _ _ _ (pr_hanging h hn p0 p1 p2)) (by decide) (by decide) (TBL_tb (List.mem_append_right _ (List.mem_append_right _ (List.mem_append_right _ (List.mem_append_right _ (List.mem_append_left _ (List.mem_of_getElem? (i := 221) rfl)))))) rfl) (TBL_tb (List.mem_append_left _ (List.mem_of_getElem? (i := 1) rfl)) rfl) (TBL_tb (List.mem_append_right _ (List.mem_append_right _ (List.mem_append_right _ (List.mem_append_right _ (List.mem_append_left _ (List.mem_of_getElem? (i := 218) rfl)))))) rfl) ⟨by decide, by decide, by decide +kernel⟩ (TBL_tb (List.mem_append_right _ (List.mem_append_right _ (List.mem_append_right _ (List.mem_append_right _ (List.mem_append_left _ (List.mem_of_getElem? (i := 219) rfl)))))) rfl) (TBL_tb (List.mem_append_right _ (List.mem_append_right _ (List.mem_append_right _ (List.mem_append_right _ (List.mem_append_left _ (List.mem_of_getElem? (i := 220) rfl)))))) rfl) rfl rfl (by decide) (by decide) (by decide) (fun v w1 hq => ?_) (fun Ec w1 hq => ?_)
  · obtain ⟨ht, c0, y, ho, hS⟩ := hq
    rcases ho with ⟨ho, rfl⟩ | ⟨sx, ho, -⟩
    · have ho := Sum.inl.inj ho
      subst ho
      refine ty_i2l C (show decode cL_hanging 10 = .ok (.i2l, 1) by decide +kernel) ?_
      refine ty_lastore C (show decode cL_hanging 11 = .ok (.lastore, 1) by decide +kernel) ht.1 (by rw [ht.2.1]; exact vp_in_nI (show 0 < 1 by decide) (by decide)) ?_
      refine ty_goto C (g := 19) (show decode cL_hanging 12 = .ok (.goto 7, 3) by decide +kernel) (by decide) ?_
      refine ty_iconst C (show decode cL_hanging 19 = .ok (.iconst 0, 1) by decide +kernel) ?_
      refine ty_ireturn C (show decode cL_hanging 20 = .ok (.ireturn, 1) by decide +kernel) ?_
      rw [oJ_0] at hS
      exact ⟨0, y, by decide, rfl, ht, fun _ => rfl, hS⟩
    · cases ho
  · obtain ⟨ht, c0, y, ho, hS⟩ := hq
    rcases ho with ⟨ho, -⟩ | ⟨sx, ho, g0, g2, hex⟩
    · cases ho
    have ho := Sum.inr.inj ho
    subst ho
    obtain ⟨x1, e0, e1⟩ := tab1 htb
    have hc0 : c0 = 1 := by
      rcases Nat.lt_or_ge c0 2 with z | z
      · omega
      · have z2 : c0 = 2 := by omega
        subst z2; cases hex
    subst hc0
    have hex := Option.some.inj hex
    subst hex
    refine ⟨15, fun th hth => ?_, ty_hd2 C (show decode cL_hanging 15 = .ok (.astore 5, 2) by decide +kernel) (by decide) (show decode cL_hanging 17 = .ok (.iconst 1, 1) by decide +kernel) (show decode cL_hanging 18 = .ok (.ireturn, 1) by decide +kernel) ?_⟩
    · rw [e0]
      exact lc_hit hpl hown (hts _ (TBL_tb (List.mem_append_right _ (List.mem_append_left _ (List.mem_of_getElem? (i := 225) rfl))) rfl)) e1 (by decide) (by decide) hth
    · exact ⟨1, y, by decide, rfl, ht, fun z => absurd z (by decide), by rw [oJ_1] at hS; exact hS⟩

theorem wr_gain {n : Nat} {w : AW} (l : Launch) (E : AE) (h : Rel n w) (hn : n < 512) (p0 p1 p2 : Int32) : MW l E yL_gain cL_gain 6 [(0, 12, 15, 13)] 8 133 1 6 [.ref 200, .int p0, .int p1, .int p2, .ref 222] w (WQ sp_X12_gain [.int p0, .int p1, .int p2] n) := by
  refine MW.of (S := (RL, 6, some .int, false)) (by decide +kernel) rfl (show (5 : Nat) ≤ 6 by decide) ?_
  intro p e s m args below meth c ad0 C hpl htb hnc
  obtain ⟨hx, hb, hml, hown, hts, -⟩ := id C
  refine ty_aload C (show decode cL_gain 0 = .ok (.aload 4, 2) by decide +kernel) rfl ?_
  refine ty_iconst C (show decode cL_gain 2 = .ok (.iconst 0, 1) by decide +kernel) ?_
  refine ty_aload_n C (show decode cL_gain 3 = .ok (.aload_n 0, 1) by decide +kernel) rfl ?_
  refine ty_iload_n C (show decode cL_gain 4 = .ok (.iload_n 1, 1) by decide +kernel) rfl ?_
  refine ty_iload_n C (show decode cL_gain 5 = .ok (.iload_n 2, 1) by decide +kernel) rfl ?_
  refine ty_iload_n C (show decode cL_gain 6 = .ok (.iload_n 3, 1) by decide +kernel) rfl ?_
  refine ty_call (r := [.int p0, .int p1, .int p2]) (t := [.int (Int32.ofInt 0), .ref 222]) (np := 3) C (show decode cL_gain 7 = .ok (.invokevirtual 94, 3) by decide +kernel) h.ci.2.1.1 (ct_X11_gain l E _ _ _ (pr_gain h hn p0 p1 p2)) (by decide) (by decide) (TBL_tb (List.mem_append_right _ (List.mem_append_right _ (List.mem_append_right _ (List.mem_append_right _ (List.mem_append_left _ (List.mem_of_getElem? (i := 228) rfl)))))) rfl) (TBL_tb (List.mem_append_left _ (List.mem_of_getElem? (i := 1) rfl)) rfl) (TBL_tb (List.mem_append_right _ (List.mem_append_right _ (List.mem_append_right _ (List.mem_append_right _ (List.mem_append_left _ (List.mem_of_getElem? (i := 225) rfl)))))) rfl) ⟨by decide, by decide, by decide +kernel⟩ (TBL_tb (List.mem_append_right _ (List.mem_append_right _ (List.mem_append_right _ (List.mem_append_right _ (List.mem_append_left _ (List.mem_of_getElem? (i := 226) rfl)))))) rfl) (TBL_tb (List.mem_append_right _ (List.mem_append_right _ (List.mem_append_right _ (List.mem_append_right _ (List.mem_append_left _ (List.mem_of_getElem? (i := 227) rfl)))))) rfl) rfl rfl (by decide) (by decide) (by decide) (fun v w1 hq => ?_) (fun Ec w1 hq => ?_)
  · obtain ⟨ht, c0, y, ho, hS⟩ := hq
    rcases ho with ⟨ho, rfl⟩ | ⟨sx, ho, -⟩
    · have ho := Sum.inl.inj ho
      subst ho
      refine ty_i2l C (show decode cL_gain 10 = .ok (.i2l, 1) by decide +kernel) ?_
      refine ty_lastore C (show decode cL_gain 11 = .ok (.lastore, 1) by decide +kernel) ht.1 (by rw [ht.2.1]; exact vp_in_nI (show 0 < 1 by decide) (by decide)) ?_
      refine ty_goto C (g := 19) (show decode cL_gain 12 = .ok (.goto 7, 3) by decide +kernel) (by decide) ?_
      refine ty_iconst C (show decode cL_gain 19 = .ok (.iconst 0, 1) by decide +kernel) ?_
      refine ty_ireturn C (show decode cL_gain 20 = .ok (.ireturn, 1) by decide +kernel) ?_
      rw [oJ_0] at hS
      exact ⟨0, y, by decide, rfl, ht, fun _ => rfl, hS⟩
    · cases ho
  · obtain ⟨ht, c0, y, ho, hS⟩ := hq
    rcases ho with ⟨ho, -⟩ | ⟨sx, ho, g0, g2, hex⟩
    · cases ho
    have ho := Sum.inr.inj ho
    subst ho
    obtain ⟨x1, e0, e1⟩ := tab1 htb
    have hc0 : c0 = 1 := by
      rcases Nat.lt_or_ge c0 2 with z | z
      · omega
      · have z2 : c0 = 2 := by omega
        subst z2; cases hex
    subst hc0
    have hex := Option.some.inj hex
    subst hex
    refine ⟨15, fun th hth => ?_, ty_hd2 C (show decode cL_gain 15 = .ok (.astore 5, 2) by decide +kernel) (by decide) (show decode cL_gain 17 = .ok (.iconst 1, 1) by decide +kernel) (show decode cL_gain 18 = .ok (.ireturn, 1) by decide +kernel) ?_⟩
    · rw [e0]
      exact lc_hit hpl hown (hts _ (TBL_tb (List.mem_append_right _ (List.mem_append_left _ (List.mem_of_getElem? (i := 61) rfl))) rfl)) e1 (by decide) (by decide) hth
    · exact ⟨1, y, by decide, rfl, ht, fun z => absurd z (by decide), by rw [oJ_1] at hS; exact hS⟩

theorem wr_tour {n : Nat} {w : AW} (l : Launch) (E : AE) (h : Rel n w) (hn : n < 512) (p0 : Int32) : MW l E yL_tour cL_tour 4 [(0, 9, 12, 19)] 8 139 1 6 [.ref 200, .int p0, .ref 222] w (WQ sp_X12_tour [.int p0] n) := by
  refine MW.of (S := (RL, 4, some .int, false)) (by decide +kernel) rfl (show (3 : Nat) ≤ 4 by decide) ?_
  intro p e s m args below meth c ad0 C hpl htb hnc
  obtain ⟨hx, hb, hml, hown, hts, -⟩ := id C
  refine ty_aload_n C (show decode cL_tour 0 = .ok (.aload_n 2, 1) by decide +kernel) rfl ?_
  refine ty_iconst C (show decode cL_tour 1 = .ok (.iconst 0, 1) by decide +kernel) ?_
  refine ty_aload_n C (show decode cL_tour 2 = .ok (.aload_n 0, 1) by decide +kernel) rfl ?_
  refine ty_iload_n C (show decode cL_tour 3 = .ok (.iload_n 1, 1) by decide +kernel) rfl ?_
  refine ty_call (r := [.int p0]) (t := [.int (Int32.ofInt 0), .ref 222]) (np := 1) C (show decode cL_tour 4 = .ok (.invokevirtual 97, 3) by decide +kernel) h.ci.2.1.1 (ct_X11_tour l E _ _ _ (pr_tour h hn p0)) (by decide) (by decide) (TBL_tb (List.mem_append_right _ (List.mem_append_right _ (List.mem_append_right _ (List.mem_append_right _ (List.mem_append_left _ (List.mem_of_getElem? (i := 236) rfl)))))) rfl) (TBL_tb (List.mem_append_left _ (List.mem_of_getElem? (i := 1) rfl)) rfl) (TBL_tb (List.mem_append_right _ (List.mem_append_right _ (List.mem_append_right _ (List.mem_append_right _ (List.mem_append_left _ (List.mem_of_getElem? (i := 233) rfl)))))) rfl) ⟨by decide, by decide, by decide +kernel⟩ (TBL_tb (List.mem_append_right _ (List.mem_append_right _ (List.mem_append_right _ (List.mem_append_right _ (List.mem_append_left _ (List.mem_of_getElem? (i := 234) rfl)))))) rfl) (TBL_tb (List.mem_append_right _ (List.mem_append_right _ (List.mem_append_right _ (List.mem_append_right _ (List.mem_append_left _ (List.mem_of_getElem? (i := 235) rfl)))))) rfl) rfl rfl (by decide) (by decide) (by decide) (fun v w1 hq => ?_) (fun Ec w1 hq => ?_)
  · obtain ⟨ht, c0, y, ho, hS⟩ := hq
    rcases ho with ⟨ho, rfl⟩ | ⟨sx, ho, -⟩
    · have ho := Sum.inl.inj ho
      subst ho
      refine ty_i2l C (show decode cL_tour 7 = .ok (.i2l, 1) by decide +kernel) ?_
      refine ty_lastore C (show decode cL_tour 8 = .ok (.lastore, 1) by decide +kernel) ht.1 (by rw [ht.2.1]; exact vp_in_nI (show 0 < 1 by decide) (by decide)) ?_
      refine ty_goto C (g := 15) (show decode cL_tour 9 = .ok (.goto 6, 3) by decide +kernel) (by decide) ?_
      refine ty_iconst C (show decode cL_tour 15 = .ok (.iconst 0, 1) by decide +kernel) ?_
      refine ty_ireturn C (show decode cL_tour 16 = .ok (.ireturn, 1) by decide +kernel) ?_
      rw [oJ_0] at hS
      exact ⟨0, y, by decide, rfl, ht, fun _ => rfl, hS⟩
    · cases ho
  · obtain ⟨ht, c0, y, ho, hS⟩ := hq
    rcases ho with ⟨ho, -⟩ | ⟨sx, ho, g0, g2, hex⟩
    · cases ho
    have ho := Sum.inr.inj ho
    subst ho
    obtain ⟨x1, e0, e1⟩ := tab1 htb
    have hc0 : c0 = 1 := by
      rcases Nat.lt_or_ge c0 2 with z | z
      · omega
      · have z2 : c0 = 2 := by omega
        subst z2; cases hex
    subst hc0
    have hex := Option.some.inj hex
    subst hex
    refine ⟨12, fun th hth => ?_, ty_hd1 C (show decode cL_tour 12 = .ok (.astore_n 3, 1) by decide +kernel) (by decide) (show decode cL_tour 13 = .ok (.iconst 1, 1) by decide +kernel) (show decode cL_tour 14 = .ok (.ireturn, 1) by decide +kernel) ?_⟩
    · rw [e0]
      exact lc_hit hpl hown (hts _ (TBL_tb (List.mem_append_right _ (List.mem_append_left _ (List.mem_of_getElem? (i := 225) rfl))) rfl)) e1 (by decide) (by decide) hth
    · exact ⟨1, y, by decide, rfl, ht, fun z => absurd z (by decide), by rw [oJ_1] at hS; exact hS⟩

