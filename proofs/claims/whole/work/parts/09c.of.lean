section SEM5
variable {p : Program} {l : Launch} {e : Env} {R : Room} {s : State} {m : MethodId} {args : Array Value} {below : List Frame} {meth : Method} {c : Code}
variable {E : AE} {S : MS} {M : MT} {cc : ByteArray} {mc ms : Nat} {w0 : AW} {ad0 : AM} {Q : AO → AW → Prop}
theorem wp1_ok (C : Cx p l R s m args meth c E S cc mc ms) (V : MV l R E S.1 cc M) {K : XP} (hK : ∀ pc L st w b, K pc L st w b → Sm p l e R s m args below meth c E S mc ms w0 ad0 Q pc L st w b) {pc : Nat} {L : AL} {st : List Value} {w : AW} {b : Nat × Nat} (h : wp1 S M Q K pc L st w b) : Sm p l e R s m args below meth c E S mc ms w0 ad0 Q pc L st w b := by
  unfold wp1 at h
  split at h
  · exact h.elim
  · rename_i i len hP
    split at h
    · rename_i hlt
      exact wpS_ok C V hK hP hlt h
    · rename_i hlt
      exact wpE_ok C V hK hP (by omega) h
theorem wp_ok (C : Cx p l R s m args meth c E S cc mc ms) (V : MV l R E S.1 cc M) {cut : List Nat} : ∀ (n : Nat) (pc : Nat) (L : AL) (st : List Value) (w : AW) (b : Nat × Nat), wp S M Q cut (Sm p l e R s m args below meth c E S mc ms w0 ad0 Q) n pc L st w b → Sm p l e R s m args below meth c E S mc ms w0 ad0 Q pc L st w b := by
  intro n
  induction n with
  | zero => intro pc L st w b h; exact h.elim
  | succ n ih =>
    intro pc L st w b h
    unfold wp at h
    split at h
    · exact h
    · exact wp1_ok C V (fun pc L st w b h => ih pc L st w b h) h
end SEM5
/-- the locals at a method's start -/
def la (vs : List Value) : AL := fun j => ((lv_args 0 vs).find? (fun q => q.1 == j)).map (fun q => q.2)
theorem lv_args_map (ad : AM) : ∀ (vs : List Value) (i : Nat), lv_args i (vs.map (cv ad)) = (lv_args i vs).map (fun q => (q.1, cv ad q.2))
  | [], _ => rfl
  | v :: vs, i => by
    show (i, cv ad v) :: lv_args _ (vs.map (cv ad)) = (i, cv ad v) :: (lv_args _ vs).map _
    rw [cv_cat, lv_args_map ad vs]
theorem lv_args_mem : ∀ (vs : List Value) (i : Nat) (q : Nat × Value), q ∈ lv_args i vs → q.2 ∈ vs
  | [], _, _, h => by cases h
  | v :: vs, i, q, h => by
    rcases List.mem_cons.mp h with rfl | h
    · exact List.mem_cons_self
    · exact List.mem_cons_of_mem _ (lv_args_mem vs _ q h)
theorem la_mem {vs : List Value} {j : Nat} {v : Value} (h : la vs j = some v) : (j, v) ∈ lv_args 0 vs := by
  unfold la at h
  cases hf : (lv_args 0 vs).find? (fun q => q.1 == j) with
  | none => rw [hf] at h; cases h
  | some q =>
    rw [hf] at h
    have h1 := List.find?_some hf
    have h2 := List.mem_of_find?_eq_some hf
    have e1 : q.1 = j := by simpa using h1
    cases h
    rw [← e1]
    exact h2
/-- A METHOD: what is owed from its start gives its contract -/
theorem MA.of {l : Launch} {E : AE} {S : MS} {M : MT} {y : MethodName} {cc : ByteArray} {fr lo mc ms : Nat} {as : List Value} {w : AW} {Q : AO → AW → Prop} (hy : plainName y.cls = true) (hS : S.1 = y.cls) (hini : S.2.2.2 = true → y.name = "<init>") (hfit : (lg_sl as).length ≤ S.2.1) (V : MV l { frames := fr, cells := mc, slots := ms, locals := lo } E S.1 cc M)
    (h : ∀ X : XP, (∀ (cut : List Nat) n pc L st w b, wp S M Q cut X n pc L st w b → X pc L st w b) → (∀ (cut : List Nat) n pc L st w b, wp1 S M Q (wp S M Q cut X n) pc L st w b → X pc L st w b) → X 0 (la as) [] w (mc, ms)) : MA l E y cc S.2.1 S.2.2.1 fr lo mc ms as w Q := by
  intro hst ad has
  refine vx_ofW (cc := cc) (maxL := S.2.1) (ret := S.2.2.1) hy rfl ?_
  intro p e s m args below meth c s₁ B hml htab hv
  obtain ⟨rfl, hC, hK, hbase, hKY⟩ := hv
  have hts0 := atoms_spec (ws := Cond.code y cc S.2.1 S.2.2.1 :: TBL) B.pre
  have hown : s.vm.findClass y.cls = some m.cls := findClass_of_methodNamed B.named
  have C : Cx p l { frames := fr, cells := mc, slots := ms, locals := lo } s m (as.map (cv ad)).toArray meth c E S cc mc ms := ⟨B.exec, B.bytes, hml, by rw [hS]; exact hown, fun w hw => hts0 w (List.mem_cons_of_mem _ hw), hK, B.returns, B.notSynchronized, hbase, rfl, rfl, fun hi => by rw [(name_of_methodNamed B.named B.method).1]; exact hini hi, htab, hst, hKY⟩
  have hX := h (Sm p l e { frames := fr, cells := mc, slots := ms, locals := lo } s m (as.map (cv ad)).toArray below meth c E S mc ms w ad Q) (fun cut n pc L st w b hw => wp_ok C V n pc L st w b hw) (fun cut n pc L st w b hw => wp1_ok C V (fun pc L st w b h => wp_ok C V n pc L st w b h) hw)
  have hlen : (lg_sl (as.map (cv ad))).length ≤ S.2.1 := by
    have e1 : (lg_sl (as.map (cv ad))).length = (lg_sl as).length := by
      unfold lg_sl
      rw [List.length_flatMap, List.length_flatMap, List.map_map]
      congr 1
      refine List.map_congr_left (fun v _ => ?_)
      show (if (cv ad v).category = 2 then [Slot.val (cv ad v), .second] else [.val (cv ad v)]).length = _
      rw [cv_cat]
      split <;> rfl
    rw [e1]; exact hfit
  have hl := lv_entry (as.map (cv ad)) (n := S.2.1) hlen
  rw [lg_entry_eq]
  generalize (lg_sl (as.map (cv ad)) ++ List.replicate (S.2.1 - (lg_sl (as.map (cv ad))).length) Slot.unset).toArray = ls at hl ⊢
  refine hX ad s.heap [] ls 0 0 hC ⟨hl.1, hl.2.1, fun j v hj => ?_⟩ (fun j v hj => has v (lv_args_mem as 0 (j, v) (la_mem hj))) (fun v hv => by cases hv) va_S.rf (by dsimp only; omega) (by dsimp only; omega) (fun i hi => ⟨hi, rfl⟩)
  refine hl.2.2 (j, cv ad v) ?_
  rw [lv_args_map]
  exact List.mem_map.mpr ⟨(j, v), la_mem hj, rfl⟩
theorem MA.mono {l : Launch} {E : AE} {y : MethodName} {cc : ByteArray} {maxL : Nat} {ret : Option FieldType} {fr lo mc ms : Nat} {as : List Value} {w : AW} {Q Q' : AO → AW → Prop} (h : MA l E y cc maxL ret fr lo mc ms as w Q) (hq : ∀ o w1, Q o w1 → Q' o w1) : MA l E y cc maxL ret fr lo mc ms as w Q' := by
  intro hst ad has p e a1 a2 a3 s m args below a4 a5 a6 a7
  obtain ⟨n, o, b1, b2, b3, b4⟩ := h hst ad has p e a1 a2 a3 s m args below a4 a5 a6 a7
  refine ⟨n, o, b1, b2, b3, ?_⟩
  rcases b4 with ⟨⟨r, w1, ad1, c1, c2, c3⟩, h2⟩ | ⟨q, c0, Ec, ce, L1, ⟨w1, ad1, c1, c2⟩, c3⟩
  · exact Or.inl ⟨⟨r, w1, ad1, c1, hq _ _ c2, c3⟩, h2⟩
  · exact Or.inr ⟨q, c0, Ec, ce, L1, ⟨w1, ad1, hq _ _ c1, c2⟩, c3⟩
