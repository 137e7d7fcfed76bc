/-! ===== WHAT IS OWED IS ENOUGH ===== -/
section SEM
variable {p : Program} {l : Launch} {e : Env} {R : Room} {s : State} {m : MethodId} {args : Array Value} {below : List Frame} {meth : Method} {c : Code}
variable {E : AE} {S : MS} {M : MT} {cc : ByteArray} {mc ms : Nat} {w0 : AW} {ad0 : AM} {Q : AO → AW → Prop} {QX : State → Prop}
def Sem (p : Program) (l : Launch) (e : Env) (R : Room) (s : State) (m : MethodId) (args : Array Value) (below : List Frame) (meth : Method) (c : Code) (E : AE) (nL mc ms : Nat) (w0 : AW) (ad0 : AM) (QX : State → Prop) : XP := fun pc L st w b =>
  ∀ (ad : AM) (H : Heap) (locs : List Loc) (ls : Array Slot) (cells slots : Nat), Conc E ad w H → lok ls nL ad L → (∀ j v, L j = some v → lvv w v) → (∀ v ∈ st, lvv w v) → va_S (fun q => E.2.2 ≤ q) s.heap H locs → cells + b.1 ≤ mc → slots + b.2 ≤ ms → mExt ad0 w0 ad w →
    W p l e R s m args below meth c H locs cells slots QX (F0 m pc ls (st.map (cv ad)))
/-- what stands fast in a method's body -/
def Cx (p : Program) (l : Launch) (R : Room) (s : State) (m : MethodId) (args : Array Value) (meth : Method) (c : Code) (E : AE) (S : MS) (cc : ByteArray) (mc ms : Nat) : Prop :=
  p.tables.exec = Jvm.exec ∧ c.code = cc ∧ c.maxLocals = S.2.1 ∧ s.vm.findClass S.1 = some m.cls ∧ (∀ w ∈ TBL, w.before args s = true) ∧ KK E s ∧ meth.sig.returnType = S.2.2.1 ∧ meth.locks = false ∧ E.2.2 ≤ s.heap.size ∧ R.cells = mc ∧ R.slots = ms ∧ (S.2.2.2 = true → meth.name = "<init>") ∧ (∀ x ∈ c.exceptionTable.toList, False) ∧ l.stackTraces = false ∧ KY E s s.heap
theorem lt1 {w : AW} {a : Value} {t : List Value} (h : ∀ v ∈ a :: t, lvv w v) : ∀ v ∈ t, lvv w v := fun v hv => h v (List.mem_cons_of_mem _ hv)
theorem lh1 {w : AW} {a : Value} {t : List Value} (h : ∀ v ∈ a :: t, lvv w v) : lvv w a := h a List.mem_cons_self
theorem lcv {w : AW} {a : Value} {t : List Value} (ha : lvv w a) (h : ∀ v ∈ t, lvv w v) : ∀ v ∈ a :: t, lvv w v := fun v hv => (List.mem_cons.mp hv).elim (fun q => q ▸ ha) (h v)
theorem cv_rf (ad : AM) (r : Option Nat) : cv ad (va_rf r) = va_rf (r.map ad.1) := by cases r <;> rfl
theorem lvl1 {w : AW} {L : AL} {i : Nat} {v : Value} (h : ∀ j u, L j = some u → lvv w u) (hv : lvv w v) : ∀ j u, ls1 L i v j = some u → lvv w u := by
  intro j u hj
  unfold ls1 at hj
  split at hj
  · cases hj; exact hv
  · split at hj
    · split at hj
      · cases hj
      · cases hj
      · exact h _ _ hj
    · exact h _ _ hj
theorem lvl2 {w : AW} {L : AL} {i : Nat} {v : Value} (h : ∀ j u, L j = some u → lvv w u) (hv : lvv w v) : ∀ j u, ls2 L i v j = some u → lvv w u := by
  intro j u hj
  unfold ls2 at hj
  split at hj
  · cases hj; exact hv
  · split at hj
    · cases hj
    · split at hj
      · split at hj
        · cases hj
        · cases hj
        · exact h _ _ hj
      · exact h _ _ hj
theorem wT_of_same {w w1 : AW} (h : wT w1 = wT w) {v : Value} (hv : lvv w v) : lvv w1 v := fun i hi => by rw [h]; exact hv i hi
theorem rf_live {w : AW} {x : Option Nat} (h : lvv w (va_rf x)) {i : Nat} (hi : x = some i) : wT w i ≠ 0 := by subst hi; exact h i rfl
theorem rf_inj {ad : AM} {w : AW} {H : Heap} (hC : Conc E ad w H) (hKY : KY E s s.heap) {x y : Option Nat} (hx : lvv w (va_rf x)) (hy : lvv w (va_rf y)) (hac : acOK w x y) : (x.map ad.1 = y.map ad.1) ↔ x = y := by
  cases x with
  | none => cases y <;> simp
  | some i =>
    cases y with
    | none => simp
    | some j =>
      simp only [Option.map_some, Option.some.injEq]
      refine ⟨fun h => ?_, fun h => by rw [h]⟩
      have c50 : ∀ q, wT w q = 50 → ad.1 q = E.1.2 60 q := fun q hq => (hC.2.2.1 q).2.2.2.2.2.2.2.1 hq
      have c17 : E.1.2 60 17 < E.2.2 := Nat.lt_of_not_le hKY.2.2.2.2.2.2.2.2.1.2.out
      rcases hac i j rfl rfl with e | ⟨g1, g2⟩ | ⟨g1, g2, ⟨k1, k2⟩, k3, k4⟩ | ⟨g1, g2, g3⟩ | ⟨g1, g2, g3⟩
      · exact e
      · exact hC.2.1 i j (hx i rfl) (hy j rfl) g1 g2 h
      · rw [c50 i g1, c50 j g2] at h
        have h9 := hKY.2.2.2.2.2.1 (i - 10) (j - 10) (by omega) (by omega) (by rw [show 10 + (i - 10) = i by omega, show 10 + (j - 10) = j by omega]; exact h)
        omega
      · have h9 := (hC.1 i (hx i rfl) (by omega)).2 g1
        rw [c50 j g3, g2] at h
        omega
      · have h9 := (hC.1 j (hy j rfl) (by omega)).2 g1
        rw [c50 i g3, g2] at h
        omega
abbrev Sm (p : Program) (l : Launch) (e : Env) (R : Room) (s : State) (m : MethodId) (args : Array Value) (below : List Frame) (meth : Method) (c : Code) (E : AE) (S : MS) (mc ms : Nat) (w0 : AW) (ad0 : AM) (Q : AO → AW → Prop) : XP := Sem p l e R s m args below meth c E S.2.1 mc ms w0 ad0 (vx_MQ below (mQc E ad0 w0 Q) (mXc E ad0 w0 Q) args s mc ms (fun q => E.2.2 ≤ q))
theorem so_getfield (C : Cx p l R s m args meth c E S cc mc ms) {pc n c0 k i : Nat} {L : AL} {t : List Value} {w : AW} {b : Nat × Nat} (hd : decode cc pc = .ok (.getfield n, 3)) (hf : c0 < 13 ∧ k < vnn c0 ∧ ∃ ref, Cond.fieldLink S.1 n ref (vTb c0 k).2.1 (vTb c0 k).2.2.1 ∈ TBL ∧ (ref = (vTb c0 k).1 ∨ Cond.sameField ref (vTb c0 k).1 (vTb c0 k).2.1 (vTb c0 k).2.2.1 ∈ TBL)) (hT : wT w i = c0 + 1) (k1 : Sm p l e R s m args below meth c E S mc ms w0 ad0 Q (pc + 3) L (gv w c0 k i :: t) w b) : Sm p l e R s m args below meth c E S mc ms w0 ad0 Q pc L (.ref i :: t) w b := by
  intro ad H locs ls cells slots h1 h2 h3 h4 h5 h6 h7 h8
  obtain ⟨hx, hb, -, hown, hts, hK, -⟩ := C
  obtain ⟨hc0, hk0, ref, hlink, hsame⟩ := hf
  obtain ⟨cell, q1, q2, q3, q4⟩ := (h1.2.2.1 i).1 c0 hc0 hT
  obtain ⟨hS, hfc, kC, hkC, hkind⟩ := hK.1 c0 hc0
  obtain ⟨cf, kf, fi, f, hi, hsl⟩ := hS k hk0
  have hir : s.fieldFound? ref (vTb c0 k).2.1 (vTb c0 k).2.2.1 = some (cf, kf, fi, f) := by
    rcases hsame with h | h
    · rw [h]; exact hi
    · exact u_same (hts _ h) _ hi
  have hg : cv ad (gv w c0 k i) = fv ad w c0 k i := by
    unfold gv fv
    split
    · exact cv_rf ad _
    · rfl
  have hlive : lvv w (gv w c0 k i) := by
    unfold gv
    split
    · intro j hj
      cases hr : wR w (64 * c0 + k) i with
      | none => rw [hr] at hj; cases hj
      | some z => rw [hr] at hj; cases hj; exact h1.2.2.2.1 _ i j (by rw [hT]; omega) hr
    · exact lvv_int _ _
  refine W.getf hx hb hown (hts _ hlink) hir (u_facts hfc hkC (u_lays hts (cw_all c0 hc0) hk0) hi).1 q1 (by rw [q3]; exact fun h => by cases h) (v := cv ad (gv w c0 k i)) ?_ rfl rfl hd (k1 ad H locs ls cells slots h1 h2 h3 (lcv hlive (lt1 h4)) h5 h6 h7 h8)
  rw [hsl, q4 k hk0, hg]
theorem so_put (C : Cx p l R s m args meth c E S cc mc ms) {pc n c0 k i : Nat} {L : AL} {v : Value} {t : List Value} {w w1 : AW} {b : Nat × Nat} (hd : decode cc pc = .ok (.putfield n, 3)) (hf : c0 < 13 ∧ k < vnn c0 ∧ ∃ ref, Cond.fieldLink S.1 n ref (vTb c0 k).2.1 (vTb c0 k).2.2.1 ∈ TBL ∧ (ref = (vTb c0 k).1 ∨ Cond.sameField ref (vTb c0 k).1 (vTb c0 k).2.1 (vTb c0 k).2.2.1 ∈ TBL)) (hT : wT w i = c0 + 1) (hfin : (vTb c0 k).2.2.2 = false ∨ (S.2.2.2 = true ∧ (vTb c0 k).1 = S.1))
    (hn : ∀ ad : AM, narrow (vty c0 k) (cv ad v) = cv ad v ∧ fits (vty c0 k) (cv ad v) = true) (hT1 : wT w1 = wT w) (hI : ∀ k j, j ≠ i → wI w1 k j = wI w k j) (hR : ∀ k j, j ≠ i → wR w1 k j = wR w k j) (hN : wN w1 = wN w) (hA : wA w1 = wA w) (hJ : wJ w1 = wJ w) (hP : wP w1 = wP w) (hL : wL w1 = wL w)
    (hv : ∀ (ad : AM) (j : Nat), fv ad w1 c0 j i = if j = k then cv ad v else fv ad w c0 j i) (hcl : lvv w v → ∀ k j, wR w1 k i = some j → wR w k i = some j ∨ v = .ref j)
    (k1 : Sm p l e R s m args below meth c E S mc ms w0 ad0 Q (pc + 3) L t w1 b) : Sm p l e R s m args below meth c E S mc ms w0 ad0 Q pc L (v :: .ref i :: t) w b := by
  intro ad H locs ls cells slots h1 h2 h3 h4 h5 h6 h7 h8
  obtain ⟨hx, hb, -, hown, hts, hK, -, -, -, -, -, hini, -⟩ := C
  obtain ⟨hc0, hk0, ref, hlink, hsame⟩ := hf
  have hne : wT w i ≠ 0 := by rw [hT]; omega
  obtain ⟨cell, q1, q2, q3, q4⟩ := (h1.2.2.1 i).1 c0 hc0 hT
  obtain ⟨hS, hfc, kC, hkC, hkind⟩ := hK.1 c0 hc0
  obtain ⟨cf, kf, fi, f, hi, hsl⟩ := hS k hk0
  have hir : s.fieldFound? ref (vTb c0 k).2.1 (vTb c0 k).2.2.1 = some (cf, kf, fi, f) := by
    rcases hsame with h | h
    · rw [h]; exact hi
    · exact u_same (hts _ h) _ hi
  have hst := (u_facts hfc hkC (u_lays hts (cw_all c0 hc0) hk0) hi).1
  have hap : ∀ x y, x < vnn c0 → y < vnn c0 → x ≠ y → (E.1.2 c0) x ≠ (E.1.2 c0) y := by
    intro x y hx hy hxy
    obtain ⟨_, _, _, fa, hia, ea⟩ := hS x hx
    obtain ⟨_, _, _, fb, hib, eb⟩ := hS y hy
    rw [← ea, ← eb]
    refine u_apart (u_lays hts (cw_all c0 hc0) hx) (u_lays hts (cw_all c0 hc0) hy) hia hib ?_
    rw [(State.fieldFound?_type hia (cw_ty c0 hc0 x hx)).1, (State.fieldFound?_type hib (cw_ty c0 hc0 y hy)).1]
    exact cw_nm c0 hc0 x hx y hy hxy
  have hfit := u_fits hfc hkC hkind (u_lays hts (cw_all c0 hc0) hk0) hi (cw_ty c0 hc0 k hk0) (hn ad).1 (hn ad).2
  have fin : ∀ H' : Heap, H'[ad.1 i]? = some (cell.setSlot f.slot (cv ad v)) → H'.size = H.size → (∀ q, q ≠ ad.1 i → H'[q]? = H[q]?) → W p l e R s m args below meth c H' (locs ++ [⟨ad.1 i, f.slot⟩]) cells slots (vx_MQ below (mQc E ad0 w0 Q) (mXc E ad0 w0 Q) args s mc ms (fun q => E.2.2 ≤ q)) (F0 m (pc + 3) ls (t.map (cv ad))) := by
    intro H' e1 e2 e3
    have hC1 : Conc E ad w1 H' := by
      refine h1.put hne (by rw [hT]; omega) e2 e3 hT1 hI hR hN (fun j _ => by rw [hA]) (fun j _ => by rw [hJ]) (fun j _ => by rw [hP]) hL (cOK.obj (c := c0) hc0 (by rw [hT1]; exact hT) ?_) (fun k j hj => ?_) (fun k j hj => by rw [hP] at hj; exact h1.2.2.2.2.1 i k j hne hj)
      · rw [hsl] at e1
        exact t_OB.to (V := updV (fun j => fv ad w c0 j i) k (cv ad v)) ⟨_, e1, q2, q3, t_set q4 hap hk0 (cv ad v)⟩ (fun j _ => by rw [hv]; rfl)
      · rcases hcl (lh1 h4) k j hj with h | h
        · exact h1.2.2.2.1 k i j hne h
        · exact lh1 h4 j h
    exact k1 ad H' _ ls cells slots hC1 h2 (fun j u hj => wT_of_same hT1 (h3 j u hj)) (fun u hu => wT_of_same hT1 (lt1 (lt1 h4) u hu)) (h5.put e2 e3 ((h1.1 i hne (by rw [hT]; omega)).2 (by rw [hT]; omega))) h6 h7 (fun j hj => by rw [hT1]; exact h8 j hj)
  by_cases hff : (vTb c0 k).2.2.2 = false
  · have hlay := hts _ (cw_all c0 hc0 _ (u_in_lay hk0))
    unfold u_lay at hlay
    rw [if_neg (by rw [hff]; decide)] at hlay
    have h6' := u_store hfc hkC hkind hlay hi (cw_ty c0 hc0 k hk0) (hn ad).1 (hn ad).2
    exact W.putK hx hb (f := f) ⟨hown, hts _ hlink, ⟨_, _, _, hir⟩, hst⟩ (by rw [q2]; exact h6') q1 q3 (by rw [hsl]; exact k2_hasslot (q4 k hk0)) rfl rfl hd fin
  · rcases hfin with h | ⟨hi1, hdecl⟩
    · exact absurd h hff
    · have hff' : (vTb c0 k).2.2.2 = true := by simpa using hff
      have hlay := hts _ (cw_all c0 hc0 _ (u_in_lay hk0))
      unfold u_lay at hlay
      rw [if_pos hff'] at hlay
      have hcf : m.cls = cf := by
        obtain ⟨_, _, c', _, _, _, -, -, hf', -, -, -, hown2, -⟩ := Cond.laysFinal_spec hlay
        have e1 : c' = cf := by have := hi.symm.trans hf'; simp at this; exact this.1.symm
        rw [hdecl] at hown2
        rw [← e1]; exact Option.some.inj (hown.symm.trans hown2)
      exact W.putFinK hx hb hown (hts _ hlink) hir hst hcf (hini hi1) (by rw [q2]; exact hfit) q1 q3 (by rw [hsl]; exact k2_hasslot (q4 k hk0)) rfl rfl hd fin
theorem isRf_ref {t : FieldType} (hd : isRf t = true) (h : t = .int ∨ (∃ n, t = .object n) ∨ ∃ u, t = .array u) (r : Option Nat) : narrow t (va_rf r) = va_rf r ∧ fits t (va_rf r) = true := by
  rcases h with rfl | ⟨n, rfl⟩ | ⟨u, rfl⟩
  · cases hd
  · cases r <;> exact ⟨rfl, rfl⟩
  · cases r <;> exact ⟨rfl, rfl⟩
theorem isRf_int {t : FieldType} (hd : isRf t = false) (x : Int32) : narrow t (.int x) = .int x ∧ fits t (.int x) = true := by
  cases t <;> simp [isRf] at hd
  exact ⟨rfl, rfl⟩
theorem vty_kind (c k : Nat) : vty c k = .int ∨ (∃ n, vty c k = .object n) ∨ ∃ u, vty c k = .array u := by
  unfold vty
  split <;> (first | unfold tyJx4a65c | unfold tyX0 | unfold tyX1 | unfold tyX2 | unfold tyX3 | unfold tyX5 | unfold tyX6 | unfold tyX7 | unfold tyX8 | unfold tyX9 | unfold tyX10 | unfold tyX11 | unfold tyX12) <;> split <;> first | exact Or.inl rfl | exact Or.inr (Or.inl ⟨_, rfl⟩) | exact Or.inr (Or.inr ⟨_, rfl⟩)
theorem so_putI (C : Cx p l R s m args meth c E S cc mc ms) {pc n c0 k i : Nat} {L : AL} {x : Int32} {t : List Value} {w : AW} {b : Nat × Nat} (hd : decode cc pc = .ok (.putfield n, 3)) (hf : c0 < 13 ∧ k < vnn c0 ∧ ∃ ref, Cond.fieldLink S.1 n ref (vTb c0 k).2.1 (vTb c0 k).2.2.1 ∈ TBL ∧ (ref = (vTb c0 k).1 ∨ Cond.sameField ref (vTb c0 k).1 (vTb c0 k).2.1 (vTb c0 k).2.2.1 ∈ TBL)) (hT : wT w i = c0 + 1) (hfin : (vTb c0 k).2.2.2 = false ∨ (S.2.2.2 = true ∧ (vTb c0 k).1 = S.1)) (hr : isRf (vty c0 k) = false)
    (k1 : Sm p l e R s m args below meth c E S mc ms w0 ad0 Q (pc + 3) L t (sI w (64 * c0 + k) i x) b) : Sm p l e R s m args below meth c E S mc ms w0 ad0 Q pc L (.int x :: .ref i :: t) w b := by
  have hk64 : ∀ j, 64 * c0 + j = 64 * c0 + k ↔ j = k := fun j => by omega
  refine so_put (w1 := sI w (64 * c0 + k) i x) C hd hf hT hfin (fun ad => isRf_int hr x) rfl (fun k' j hj => by rw [wI_sI, if_neg hj]; split <;> rfl) (fun _ _ _ => rfl) rfl rfl rfl rfl rfl (fun ad j => ?_) (fun _ k' j hj => Or.inl hj) k1
  unfold fv
  rw [wI_sI, wR_sI]
  by_cases hj : j = k
  · subst hj
    rw [if_pos rfl, if_pos rfl, hr, if_pos rfl]
    rfl
  · rw [if_neg hj, if_neg (fun q => hj ((hk64 j).mp q))]
theorem so_putR (C : Cx p l R s m args meth c E S cc mc ms) {pc n c0 k i : Nat} {L : AL} {x : Option Nat} {t : List Value} {w : AW} {b : Nat × Nat} (hd : decode cc pc = .ok (.putfield n, 3)) (hf : c0 < 13 ∧ k < vnn c0 ∧ ∃ ref, Cond.fieldLink S.1 n ref (vTb c0 k).2.1 (vTb c0 k).2.2.1 ∈ TBL ∧ (ref = (vTb c0 k).1 ∨ Cond.sameField ref (vTb c0 k).1 (vTb c0 k).2.1 (vTb c0 k).2.2.1 ∈ TBL)) (hT : wT w i = c0 + 1) (hfin : (vTb c0 k).2.2.2 = false ∨ (S.2.2.2 = true ∧ (vTb c0 k).1 = S.1)) (hr : isRf (vty c0 k) = true)
    (k1 : Sm p l e R s m args below meth c E S mc ms w0 ad0 Q (pc + 3) L t (sR w (64 * c0 + k) i x) b) : Sm p l e R s m args below meth c E S mc ms w0 ad0 Q pc L (va_rf x :: .ref i :: t) w b := by
  have hk64 : ∀ j, 64 * c0 + j = 64 * c0 + k ↔ j = k := fun j => by omega
  refine so_put (w1 := sR w (64 * c0 + k) i x) C hd hf hT hfin (fun ad => by rw [cv_rf]; exact isRf_ref hr (vty_kind c0 k) _) rfl (fun _ _ _ => rfl) (fun k' j hj => by rw [wR_sR, if_neg hj]; split <;> rfl) rfl rfl rfl rfl rfl (fun ad j => ?_) (fun _ k' j hj => ?_) k1
  · unfold fv
    rw [wR_sR, wI_sR]
    by_cases hj : j = k
    · subst hj
      rw [if_pos rfl, if_pos rfl, hr, if_pos rfl, if_pos rfl, cv_rf]
    · rw [if_neg hj, if_neg (fun q => hj ((hk64 j).mp q))]
  · rw [wR_sR, if_pos rfl] at hj
    split at hj
    · subst hj; exact Or.inr rfl
    · exact Or.inl hj
theorem so_iaload (C : Cx p l R s m args meth c E S cc mc ms) {pc i : Nat} {L : AL} {x : Int32} {t : List Value} {w : AW} {b : Nat × Nat} (hd : decode cc pc = .ok (.iaload, 1)) (hT : wT w i = 20) (hin : vp_in x (wN w i)) (k : Sm p l e R s m args below meth c E S mc ms w0 ad0 Q (pc + 1) L (.int (wA w i x.toNatClampNeg) :: t) w b) : Sm p l e R s m args below meth c E S mc ms w0 ad0 Q pc L (.int x :: .ref i :: t) w b := by
  intro ad H locs ls cells slots h1 h2 h3 h4 h5 h6 h7 h8
  obtain ⟨hx, hb, -, hown, hts, hK, -⟩ := C
  have hlt : x.toNatClampNeg < wN w i := Nat.not_le.mp fun q => hin (Or.inr q)
  exact W.iald (v := .int (wA w i x.toNatClampNeg)) hx hb ((h1.2.2.1 i).2.1 hT) (hK.2.1.1 _ _) (fun q => by cases q) (by rw [arrV_size]; exact hin) (by rw [arrV_read _ _ hlt]) rfl rfl hd (k ad H locs ls cells slots h1 h2 h3 (lcv (lvv_int _ _) (lt1 (lt1 h4))) h5 h6 h7 h8)
theorem so_baload (C : Cx p l R s m args meth c E S cc mc ms) {pc i : Nat} {L : AL} {x : Int32} {t : List Value} {w : AW} {b : Nat × Nat} (hd : decode cc pc = .ok (.baload, 1)) (hT : wT w i = 21) (hin : vp_in x (wN w i)) (k : Sm p l e R s m args below meth c E S mc ms w0 ad0 Q (pc + 1) L (.int (wA w i x.toNatClampNeg) :: t) w b) : Sm p l e R s m args below meth c E S mc ms w0 ad0 Q pc L (.int x :: .ref i :: t) w b := by
  intro ad H locs ls cells slots h1 h2 h3 h4 h5 h6 h7 h8
  obtain ⟨hx, hb, -, hown, hts, hK, -⟩ := C
  have hlt : x.toNatClampNeg < wN w i := Nat.not_le.mp fun q => hin (Or.inr q)
  exact W.bald (v := .int (wA w i x.toNatClampNeg)) hx hb ((h1.2.2.1 i).2.2.1 hT) (hK.2.2.1.1 _ _) (fun q => by cases q) (by rw [arrV_size]; exact hin) (by rw [arrV_read _ _ hlt]) rfl rfl hd (k ad H locs ls cells slots h1 h2 h3 (lcv (lvv_int _ _) (lt1 (lt1 h4))) h5 h6 h7 h8)
theorem so_laload (C : Cx p l R s m args meth c E S cc mc ms) {pc i : Nat} {L : AL} {x : Int32} {t : List Value} {w : AW} {b : Nat × Nat} (hd : decode cc pc = .ok (.laload, 1)) (hT : wT w i = 22) (hin : vp_in x (wN w i)) (k : Sm p l e R s m args below meth c E S mc ms w0 ad0 Q (pc + 1) L (.long (wJ w i x.toNatClampNeg) :: t) w b) : Sm p l e R s m args below meth c E S mc ms w0 ad0 Q pc L (.int x :: .ref i :: t) w b := by
  intro ad H locs ls cells slots h1 h2 h3 h4 h5 h6 h7 h8
  obtain ⟨hx, hb, -, hown, hts, hK, -⟩ := C
  have hlt : x.toNatClampNeg < wN w i := Nat.not_le.mp fun q => hin (Or.inr q)
  exact W.lald (v := .long (wJ w i x.toNatClampNeg)) hx hb ((h1.2.2.1 i).2.2.2.1 hT) (hK.2.2.2.1 _ _) (fun q => by cases q) (by rw [arrV_size]; exact hin) (by rw [arrV_read _ _ hlt]) rfl rfl hd (k ad H locs ls cells slots h1 h2 h3 (lcv (lvv_long _ _) (lt1 (lt1 h4))) h5 h6 h7 h8)
theorem so_iastore (C : Cx p l R s m args meth c E S cc mc ms) {pc i : Nat} {L : AL} {x : Int32} {v : Int32} {t : List Value} {w : AW} {b : Nat × Nat} (hd : decode cc pc = .ok (.iastore, 1)) (hT : wT w i = 20) (hin : vp_in x (wN w i)) (k : Sm p l e R s m args below meth c E S mc ms w0 ad0 Q (pc + 1) L t (sA w i x.toNatClampNeg v) b) : Sm p l e R s m args below meth c E S mc ms w0 ad0 Q pc L (.int v :: .int x :: .ref i :: t) w b := by
  intro ad H locs ls cells slots h1 h2 h3 h4 h5 h6 h7 h8
  obtain ⟨hx, hb, -, hown, hts, hK, -⟩ := C
  have hne : wT w i ≠ 0 := by rw [hT]; decide
  refine W.iast hx hb ((h1.2.2.1 i).2.1 hT) (hK.2.1.1 _ _) (fun q => by cases q) (by rw [arrV_size]; exact hin) rfl rfl hd fun H1 e z oq => ?_
  have hC1 : Conc E ad (sA w i x.toNatClampNeg v) H1 := by
    refine h1.put hne (by rw [hT]; decide) z oq rfl (fun _ _ _ => rfl) (fun _ _ _ => rfl) rfl (fun j hj => by funext q; rw [wA_sA, if_neg hj]) (fun j hj => rfl) (fun _ _ => rfl) rfl (cOK.a20 (show wT w i = 20 from hT) ?_) (fun k j hj => h1.2.2.2.1 k i j hne hj) (fun k j hj => h1.2.2.2.2.1 i k j hne hj)
    rw [e]
    rw [arrV_store]
    congr 2
    funext q
    by_cases hq : q = x.toNatClampNeg
    · subst hq; simp [updV, wA_sA]
    · simp [updV, wA_sA, hq]
  exact k ad H1 _ ls cells slots hC1 h2 (fun j u hj => wT_of_same rfl (h3 j u hj)) (fun u hu => wT_of_same rfl (lt1 (lt1 (lt1 h4)) u hu)) (h5.put z oq ((h1.1 i hne (by rw [hT]; decide)).2 (by rw [hT]; decide))) h6 h7 h8
theorem so_lastore (C : Cx p l R s m args meth c E S cc mc ms) {pc i : Nat} {L : AL} {x : Int32} {v : Int64} {t : List Value} {w : AW} {b : Nat × Nat} (hd : decode cc pc = .ok (.lastore, 1)) (hT : wT w i = 22) (hin : vp_in x (wN w i)) (k : Sm p l e R s m args below meth c E S mc ms w0 ad0 Q (pc + 1) L t (sJ w i x.toNatClampNeg v) b) : Sm p l e R s m args below meth c E S mc ms w0 ad0 Q pc L (.long v :: .int x :: .ref i :: t) w b := by
  intro ad H locs ls cells slots h1 h2 h3 h4 h5 h6 h7 h8
  obtain ⟨hx, hb, -, hown, hts, hK, -⟩ := C
  have hne : wT w i ≠ 0 := by rw [hT]; decide
  refine W.last hx hb ((h1.2.2.1 i).2.2.2.1 hT) (hK.2.2.2.1 _ _) (fun q => by cases q) (by rw [arrV_size]; exact hin) rfl rfl hd fun H1 e z oq => ?_
  have hC1 : Conc E ad (sJ w i x.toNatClampNeg v) H1 := by
    refine h1.put hne (by rw [hT]; decide) z oq rfl (fun _ _ _ => rfl) (fun _ _ _ => rfl) rfl (fun j hj => rfl) (fun j hj => by funext q; rw [wJ_sJ, if_neg hj]) (fun _ _ => rfl) rfl (cOK.a22 (show wT w i = 22 from hT) ?_) (fun k j hj => h1.2.2.2.1 k i j hne hj) (fun k j hj => h1.2.2.2.2.1 i k j hne hj)
    rw [e]
    rw [arrV_store]
    congr 2
    funext q
    by_cases hq : q = x.toNatClampNeg
    · subst hq; simp [updV, wJ_sJ]
    · simp [updV, wJ_sJ, hq]
  exact k ad H1 _ ls cells slots hC1 h2 (fun j u hj => wT_of_same rfl (h3 j u hj)) (fun u hu => wT_of_same rfl (lt1 (lt1 (lt1 h4)) u hu)) (h5.put z oq ((h1.1 i hne (by rw [hT]; decide)).2 (by rw [hT]; decide))) h6 h7 h8
theorem so_bastore (C : Cx p l R s m args meth c E S cc mc ms) {pc i : Nat} {L : AL} {x : Int32} {v : Int32} {t : List Value} {w : AW} {b : Nat × Nat} (hd : decode cc pc = .ok (.bastore, 1)) (hT : wT w i = 21) (hin : vp_in x (wN w i)) (k : Sm p l e R s m args below meth c E S mc ms w0 ad0 Q (pc + 1) L t (sA w i x.toNatClampNeg (vp_nar .byte v)) b) : Sm p l e R s m args below meth c E S mc ms w0 ad0 Q pc L (.int v :: .int x :: .ref i :: t) w b := by
  intro ad H locs ls cells slots h1 h2 h3 h4 h5 h6 h7 h8
  obtain ⟨hx, hb, -, hown, hts, hK, -⟩ := C
  have hne : wT w i ≠ 0 := by rw [hT]; decide
  refine W.bast hx hb ((h1.2.2.1 i).2.2.1 hT) (hK.2.2.1.1 _ _) (fun q => by cases q) (by rw [arrV_size]; exact hin) rfl rfl hd fun H1 e z oq => ?_
  have hC1 : Conc E ad (sA w i x.toNatClampNeg (vp_nar .byte v)) H1 := by
    refine h1.put hne (by rw [hT]; decide) z oq rfl (fun _ _ _ => rfl) (fun _ _ _ => rfl) rfl (fun j hj => by funext q; rw [wA_sA, if_neg hj]) (fun j hj => rfl) (fun _ _ => rfl) rfl (cOK.a21 (show wT w i = 21 from hT) ?_) (fun k j hj => h1.2.2.2.1 k i j hne hj) (fun k j hj => h1.2.2.2.2.1 i k j hne hj)
    rw [e]
    rw [arrV_store]
    congr 2
    funext q
    by_cases hq : q = x.toNatClampNeg
    · subst hq; simp [updV, wA_sA, vp_nar_byte, narrow]
    · simp [updV, wA_sA, hq]
  exact k ad H1 _ ls cells slots hC1 h2 (fun j u hj => wT_of_same rfl (h3 j u hj)) (fun u hu => wT_of_same rfl (lt1 (lt1 (lt1 h4)) u hu)) (h5.put z oq ((h1.1 i hne (by rw [hT]; decide)).2 (by rw [hT]; decide))) h6 h7 h8
theorem so_arraylength (C : Cx p l R s m args meth c E S cc mc ms) {pc i : Nat} {L : AL} {t : List Value} {w : AW} {b : Nat × Nat} (hd : decode cc pc = .ok (.arraylength, 1)) (hT : wT w i = 20 ∨ wT w i = 21 ∨ wT w i = 22) (k : Sm p l e R s m args below meth c E S mc ms w0 ad0 Q (pc + 1) L (.int (Int32.ofNat (wN w i)) :: t) w b) : Sm p l e R s m args below meth c E S mc ms w0 ad0 Q pc L (.ref i :: t) w b := by
  intro ad H locs ls cells slots h1 h2 h3 h4 h5 h6 h7 h8
  obtain ⟨hx, hb, -, hown, hts, hK, -⟩ := C
  have kk := k ad H locs ls cells slots h1 h2 h3 (lcv (lvv_int _ _) (lt1 h4)) h5 h6 h7 h8
  rcases hT with hT | hT | hT
  · exact W.alen (n := Int32.ofNat (wN w i)) hx hb ((h1.2.2.1 i).2.1 hT) (hK.2.1.1 _ _) (by rw [arrV_size] <;> rfl) rfl rfl hd kk
  · exact W.alen (n := Int32.ofNat (wN w i)) hx hb ((h1.2.2.1 i).2.2.1 hT) (hK.2.2.1.1 _ _) (by rw [arrV_size] <;> rfl) rfl rfl hd kk
  · exact W.alen (n := Int32.ofNat (wN w i)) hx hb ((h1.2.2.1 i).2.2.2.1 hT) (hK.2.2.2.1 _ _) (by rw [arrV_size] <;> rfl) rfl rfl hd kk
end SEM
