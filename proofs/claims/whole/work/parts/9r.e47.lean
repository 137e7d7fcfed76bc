theorem nc_warm {A B : String} {args a' : Array Value} {s U : State} (h : (Cond.not (.castable A B)).before args s = true) (hW : s.WarmedH U.vm) : (Cond.not (.castable A B)).before a' U = true := by
  have hv := Cond.holds_not_iff.mp h
  refine Cond.holds_not_iff.mpr ?_
  simp only [Cond.value] at hv ⊢
  rw [hW.alike.findClass, hW.alike.findClass]
  cases h1 : s.vm.findClass A with
  | none => rw [h1] at hv; exact hv
  | some c1 =>
    cases h2 : s.vm.findClass B with
    | none => rw [h1, h2] at hv; exact hv
    | some c2 =>
      rw [h1, h2] at hv
      dsimp only at hv ⊢
      rw [hW.alike.assignable]; exact hv
theorem MW.met {l : Launch} {E : AE} {y : MethodName} {cc : ByteArray} {maxL : Nat} {hh : List (Nat × Nat × Nat × Nat)} {fr lo mc ms : Nat} {as : List Value} {w : AW} {Q : AO → AW → Prop} (h : MW l E y cc maxL hh fr lo mc ms as w Q) (hst : l.stackTraces = false) (ad : AM) (has : ∀ v ∈ as, lvv w v) (hn : ∀ C w1, ¬ Q (.inr C) w1) : Met l y (.codeWith y cc maxL (some .int) hh :: (NCW ++ TBL)) { frames := fr, cells := mc, slots := ms, locals := lo } (mPc E ad w as) (mQc E ad w Q) mc ms (fun q => E.2.2 ≤ q) := by
  intro p e a1 a2 a3 s m args below a4 a5 a6 a7
  obtain ⟨n, o, b1, b2, b3, b4⟩ := h hst ad has p e a1 a2 a3 s m args below a4 a5 a6 a7
  refine ⟨n, o, b1, b2, b3, ?_⟩
  rcases b4 with g | ⟨q, c0, Ec, ce, L1, ⟨w1, ad1, c1, c2⟩, c3⟩
  · exact g
  · exact absurd c1 (hn _ _)
section TZ
variable {p : Program} {l : Launch} {e : Env} {R : Room} {s : State} {m : MethodId} {args : Array Value} {below : List Frame} {meth : Method} {c : Code}
variable {E : AE} {S : MS} {cc : ByteArray} {mc ms : Nat} {w0 : AW} {ad0 : AM} {Q : AO → AW → Prop}
/-- the law calls a wrapper -/
theorem so_wrap (C : Cx p l R s m args meth c E S cc mc ms) {pc n np kc ks fr lo maxL : Nat} {L : AL} {as t : List Value} {w : AW} {b : Nat × Nat} {y : MethodName} {bytes : ByteArray} {hh : List (Nat × Nat × Nat × Nat)} {Q1 : AO → AW → Prop} (hd : decode cc pc = .ok (.invokestatic n, 3)) (hM : MW l E y bytes maxL hh fr lo kc ks as w Q1) (hN : ∀ C w1, ¬ Q1 (.inr C) w1) (hfr : fr + 1 ≤ R.frames) (hlo : 8 + (maxL + 11) + lo ≤ R.locals) (hco : Cond.codeWith y bytes maxL (some .int) hh ∈ TBL) (hin : Cond.initialized y.cls ∈ TBL) (hli : Cond.methodLink S.1 n y ∈ TBL) (hnm : y.cls ≠ "java/lang/invoke/MethodHandle" ∧ y.cls ≠ "java/lang/invoke/VarHandle" ∧ (parseMethodDescriptor y.desc).map (fun d => d.parameters.length) = some np) (hstt : Cond.static y ∈ TBL) (hnc : ∀ w ∈ NCW, w.before args s = true) (hlen : as.length = np) (hsum : wsum t ≤ 8) (hb1 : kc ≤ b.1) (hb2 : ks ≤ b.2)
    (k1 : ∀ v w1, Q1 (.inl v) w1 → Sm p l e R s m args below meth c E S mc ms w0 ad0 Q (pc + 3) L (v.toList ++ t) w1 (b.1 - kc, b.2 - ks)) : Sm p l e R s m args below meth c E S mc ms w0 ad0 Q pc L (as.reverse ++ t) w b := by
  intro ad H locs ls cells slots h1 h2 h3 h4 h5 h6 h7 h8
  obtain ⟨hx, hb, hml, hown, hts, hK, hr, hlocks, hbase, hrc, hrs, -, -, hst, hKY⟩ := id C
  have has : ∀ v ∈ as, lvv w v := fun v hv => h4 v (List.mem_append_left _ (List.mem_reverse.mpr hv))
  have ht : ∀ v ∈ t, lvv w v := fun v hv => h4 v (List.mem_append_right _ hv)
  have hMet := hM.met hst ad has hN
  have hws : ∀ x ∈ (Cond.codeWith y bytes maxL (some .int) hh :: (NCW ++ TBL)), ∀ (a' : Array Value) (U : State), s.WarmedH U.vm → x.before a' U = true := by
    intro x hx a' U hW
    rcases List.mem_cons.mp hx with rfl | hx
    · exact word_at hW (TBL_good hco) (hts _ hco)
    · rcases List.mem_append.mp hx with hx | hx
      · have q := hnc x hx
        unfold NCW at hx
        simp only [List.mem_cons, List.not_mem_nil, or_false] at hx
        rcases hx with rfl | rfl | rfl <;> exact nc_warm q hW
      · exact word_at hW (TBL_good hx) (hts _ hx)
  have hrun := vx_runSW (p := p) (l := l) (e := e) (R := R) (s := s) (m := m) (args := args) (below := below) (meth := meth) (c := c) (H := H) (locs := locs) (cells := cells) (slots := slots) (Ts := TBL) (As := as.map (cv ad)) (rest := t.map (cv ad)) (g := F0 m pc ls ((as.reverse ++ t).map (cv ad))) ⟨hx, hb, hml, hown, hts⟩ hMet ⟨⟨rfl, rfl, hfr, hlo, hws, List.mem_cons_self⟩, hts _ hco, hts _ hin, ⟨hnm.1, hnm.2.1⟩, fun sig hs => by have q := hnm.2.2; rw [hs] at q; exact (Option.some.inj q).symm, hts _ hli, hts _ hstt⟩ ⟨mPc_blind E ad w as, so_pre h1 hK (Nat.le_trans hbase h5.1) hKY h5⟩ rfl (by rw [List.length_map]; exact hlen) h2.1 (by rw [List.map_append, List.map_reverse]) (lv_room (by rw [wsum_map]; exact hsum)) hd ⟨by rw [hrc]; omega, by rw [hrs]; omega⟩
  intro T hT X
  obtain ⟨v, st₀, t1, T', L1, h0, X', hL, e1, e2, ⟨r1, w1, ad1, hv, hq, hC1, hext, hlv, hF⟩, st⟩ := hrun T hT X
  obtain ⟨-, -, kS⟩ := vx_keep h0 e1 h5 (fun q _ h => h) (fun q h => h) hL hF
  have hsame : ∀ i, wT w i ≠ 0 → ad1.1 i = ad.1 i := fun i hi => (hext i hi).2
  have hmono : ∀ u, lvv w u → lvv w1 u := fun u hu i hi => (hext i (hu i hi)).1
  have kk := k1 r1 w1 hq ad1 T'.heap (locs ++ L1) ls (cells + kc) (slots + ks) (by rw [e1]; exact hC1) ⟨h2.1, h2.2.1, fun j u hj => by rw [cv_same hsame (h3 j u hj)]; exact h2.2.2 j u hj⟩ (fun j u hj => hmono u (h3 j u hj))
    (fun u hu => by
      rcases List.mem_append.mp hu with h | h
      · cases r1 with
        | none => cases h
        | some z => rw [Option.toList_some, List.mem_singleton] at h; subst h; exact hlv _ rfl
      · exact hmono u (ht u h)) kS (by dsimp only; omega) (by dsimp only; omega) (fun i hi => by obtain ⟨a, b⟩ := h8 i hi; obtain ⟨a2, b2⟩ := hext i a; exact ⟨a2, b2.trans b⟩)
  obtain ⟨t2, a1, b1⟩ := kk T' rfl X'
  refine ⟨t2, st t2 ?_, b1⟩
  have ev : v = r1.map (cv ad1) := by cases hv; rfl
  have estk : (r1.toList ++ t).map (cv ad1) = v.toList ++ t.map (cv ad) := by
    rw [List.map_append, ev, List.map_congr_left (fun u hu => cv_same hsame (ht u hu))]
    cases r1 <;> rfl
  rw [estk] at a1
  exact a1
end TZ

