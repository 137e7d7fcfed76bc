/-! ===== CATCHING, where the class of a clause may not be resolved yet ===== -/
theorem lc_go {Q : Handler → Pre} {E : CtlPost} {e : Env} {d : Bool} {acts : List Action} {s : State} {f : JFrame} {a : Addr} {x : ExceptionTableEntry} {t : List ExceptionTableEntry} {c : ClassId} {cell : Cell} (hx : covers x f.pc = true) (h0 : x.catchType ≠ 0)
    (hl : s.vm.ClassLinks e.platform f.method.cls x.catchType c) (hcell : s.heap[a]? = some cell) (hobj : ∀ k, cell.vm ≠ .statics k) (hk : ∃ k, s.vm.classes[cell.cls]? = some k) (hc : ∃ k, s.vm.classes[c]? = some k) :
    (findHandler.go f a (x :: t)).wp Q E e d acts s ↔ if s.vm.assignable cell.cls c = true then Q (.found x.handlerPc) d acts (s.setVm (s.vm.noted f.method.cls x.catchType (.cls c))) else (findHandler.go f a t).wp Q E e d acts (s.setVm (s.vm.noted f.method.cls x.catchType (.cls c))) := by
  obtain ⟨r1, r2⟩ := (resolveClass_links e.toSetting hl).op (op := VmOp.resolveClass f.method.cls x.catchType) rfl
  have al : s.vm.Alike (s.vm.noted f.method.cls x.catchType (.cls c)) := (Vm.Alike.refl s.vm).noted _ _ _
  obtain ⟨k1, hk1⟩ := hk
  obtain ⟨k2, hk2⟩ := hc
  obtain ⟨q1, hq1, -⟩ := al.2.2 _ _ hk1
  obtain ⟨q2, hq2, -⟩ := al.2.2 _ _ hk2
  have ha : (s.vm.noted f.method.cls x.catchType (.cls c)).assignable cell.cls c = s.vm.assignable cell.cls c := al.assignable _ _
  simp only [covers] at hx
  by_cases z : s.vm.assignable cell.cls c = true
  · rw [if_pos z]
    rw [z] at ha
    simp [findHandler.go, hx, h0, r1, r2, hcell, hobj, hq1, hq2, ha, VmOp.dirties, VmOp.acts]
  · rw [if_neg z]
    have z' : s.vm.assignable cell.cls c = false := by simpa using z
    rw [z'] at ha
    simp [findHandler.go, hx, h0, r1, r2, hcell, hobj, hq1, hq2, ha, VmOp.dirties, VmOp.acts]
/-- the clauses of a table, one behind the other: the first that takes the thrown class leads to h -/
def LcOK (s : State) (pl : Platform) (d : ClassId) (pc : Nat) (th : ClassId) (h : Nat) : List ExceptionTableEntry → Prop
  | [] => False
  | x :: t => covers x pc = true ∧ x.catchType ≠ 0 ∧ ∃ c, s.vm.ClassLinks pl d x.catchType c ∧ ((s.vm.assignable th c = true ∧ x.handlerPc = h) ∨ (s.vm.assignable th c = false ∧ LcOK s pl d pc th h t))
theorem lc_thr {e : Env} {s : State} {f : JFrame} {a : Addr} {cell : Cell} {h : Nat} (hobj : ∀ k, cell.vm ≠ .statics k) (hk : ∃ k, s.vm.classes[cell.cls]? = some k) :
    ∀ (tab : List ExceptionTableEntry) (S : State), s.WarmedH S.vm → S.heap[a]? = some cell → LcOK s e.platform f.method.cls f.pc cell.cls h tab → ∃ vm', s.WarmedH vm' ∧ ∀ (Q : Handler → Pre) (E : CtlPost) (d : Bool) (acts : List Action), (findHandler.go f a tab).wp Q E e d acts S ↔ Q (.found h) d acts (S.setVm vm')
  | [], _, _, _, hb => hb.elim
  | x :: t, S, hW, hc, ⟨hx, h0, c, hl, hb⟩ => by
    obtain ⟨k, hk1⟩ := hk
    obtain ⟨k', hk', -⟩ := hW.alike.2.2 _ _ hk1
    obtain ⟨dk, _, _, kt, hd, _, _, _, _, hkt, _, hopen⟩ := hl.here
    obtain ⟨kt', hkt', -⟩ := hW.alike.2.2 _ _ hkt
    have hW2 : s.WarmedH (S.vm.noted f.method.cls x.catchType (.cls c)) := hW.noted hd hopen (State.rightAt_cls hl)
    have ha : S.vm.assignable cell.cls c = s.vm.assignable cell.cls c := hW.alike.assignable _ _
    have key := fun Q E d acts => lc_go (Q := Q) (E := E) (e := e) (d := d) (acts := acts) (s := S) (f := f) (a := a) (x := x) (t := t) (c := c) (cell := cell) hx h0 (hW.classLinks hl) hc hobj ⟨k', hk'⟩ ⟨kt', hkt'⟩
    rcases hb with ⟨hy, he⟩ | ⟨hn, hr⟩
    · refine ⟨_, hW2, fun Q E d acts => ?_⟩
      rw [key, if_pos (by rw [ha]; exact hy), he]
    · obtain ⟨vm', g1, g2⟩ := lc_thr hobj ⟨k, hk1⟩ t (S.setVm (S.vm.noted f.method.cls x.catchType (.cls c))) hW2 hc hr
      refine ⟨vm', g1, fun Q E d acts => ?_⟩
      rw [key, if_neg (by rw [ha, hn]; decide)]
      exact g2 Q E d acts
theorem lc_steps {tb : Tables} {e : Env} {s target : State} {g : JFrame} {c : Code} {below : List Frame} {a : Addr} {pc : Nat} {vm' : Vm} (h : At s g.method c below)
    (hf : ∀ (Q : Handler → Pre) (E : CtlPost) (d : Bool) (acts : List Action), (findHandler g a).wp Q E e d acts ((s.setTop g).pushFrame (.throwing a)) ↔ Q (.found pc) d acts (((s.setTop g).pushFrame (.throwing a)).setVm vm'))
    (hr : Steps tb e below ((s.setVm vm').setTop { g with pc := pc, stack := [.ref a] }) target) : Steps tb e below ((s.setTop g).pushFrame (.throwing a)) target := by
  obtain ⟨hgo, hw⟩ := h.throwing a
  refine Steps.head hgo hw ?_
  rw [stepThread_throwing (frames_entered h.top _)]
  have e1 : (stepThrowing e ((s.setTop g).pushFrame (.throwing a)) a (.java g :: s.frames.tail)).1 = (((s.setTop g).pushFrame (.throwing a)).setVm vm').setFrames (.java { g with pc := pc, stack := [.ref a] } :: s.frames.tail) := by
    simp only [stepThrowing, searchFrame, vmDo]
    generalize hz : Sem.go _ e false [] ((s.setTop g).pushFrame (.throwing a)) = res
    obtain ⟨as, rfl, ha⟩ := Sem.eq_ok_of hz (a := Handler.found pc) (s' := ((s.setTop g).pushFrame (.throwing a)).setVm vm') (acts' := []) (by simp [hf])
    rfl
  rw [e1]
  obtain ⟨g0, hg⟩ := Option.isSome_iff_exists.mp h.top
  obtain ⟨r, hfr⟩ := State.topJava?_eq_some.mp hg
  have hfr' : (s.setVm vm').frames = .java g0 :: r := hfr
  rw [State.setTop_of_frames _ hfr'] at hr
  have sw : ∀ (u : State) (F G : List Frame), ((u.setFrames F).setVm vm').setFrames G = (u.setVm vm').setFrames G := fun u F G => by
    show ((u.setVm vm').setFrames F).setFrames G = _
    rw [State.setFrames_setFrames]
  rw [hfr, List.tail_cons, State.pushFrame, sw, State.setTop_of_frames _ hfr, sw]
  exact hr
theorem lc_catch {p : Program} {l : Launch} {e : Env} {R : Room} {s : State} {m : MethodId} {args : Array Value} {below : List Frame} {meth : Method} {c : Code} {T : State} {locs : List Loc} {cells slots : Nat} (X : Stand p l e R s m args below meth c T locs cells slots) {q : Addr} {g : JFrame} {ce : Cell} {h : Nat} (hg : g.method = m) (hce : T.heap[q]? = some ce) (hv : ce.vm = .none) (hk : ∃ k, s.vm.classes[ce.cls]? = some k) (ht : LcOK s e.platform m.cls g.pc ce.cls h c.exceptionTable.toList) :
    ∃ vm', Stand p l e R s m args below meth c (T.setVm vm') locs cells slots ∧ ∀ target, Steps p.tables e below ((T.setVm vm').setTop { g with pc := h, stack := [.ref q] }) target → Steps p.tables e below ((T.setTop g).pushFrame (.throwing q)) target := by
  subst hg
  have hvm : ((T.setTop g).pushFrame (.throwing q)).vm = T.vm := Stand.throwing_vm T g q
  have hhp : ((T.setTop g).pushFrame (.throwing q)).heap = T.heap := Stand.throwing_heap T g q
  obtain ⟨vm', w1, w2⟩ := lc_thr (e := e) (s := s) (f := g) (a := q) (cell := ce) (h := h) (fun k z => by rw [hv] at z; cases z) hk c.exceptionTable.toList ((T.setTop g).pushFrame (.throwing q)) (by rw [hvm]; exact X.warmed) (by rw [hhp]; exact hce) ht
  refine ⟨vm', X.noted w1, fun target hr => lc_steps X.here (fun Q E d acts => ?_) hr⟩
  rw [W.findHandler_eq (by rw [hvm]; exact X.method') X.code]
  exact w2 Q E d acts

