section SEM2
variable {p : Program} {l : Launch} {e : Env} {R : Room} {s : State} {m : MethodId} {args : Array Value} {below : List Frame} {meth : Method} {c : Code}
variable {E : AE} {S : MS} {M : MT} {cc : ByteArray} {mc ms : Nat} {w0 : AW} {ad0 : AM} {Q : AO → AW → Prop}
theorem va_S.push {A : Nat → Prop} {H0 H H1 : Heap} {locs : List Loc} (h : va_S A H0 H locs) (z : H1.size = H.size + 1) (o : ∀ q, q < H.size → H1[q]? = H[q]?) : va_S A H0 H1 locs := ⟨by have := h.1; omega, fun q h1 h2 => by rw [o q (Nat.lt_of_lt_of_le h1 h.1)]; exact h.2.1 q h1 h2, h.2.2⟩
theorem mExt.new {w w1 w2 : AW} {ad ad1 : AM} {X q : Nat} (h : mExt ad w ad1 w1) (hX : wT w1 X = 0) (hT : ∀ j, j ≠ X → wT w2 j = wT w1 j) : mExt ad w (up1 ad1.1 X q, ad1.2) w2 := by
  intro i hi
  obtain ⟨a, b⟩ := h i hi
  have hne : i ≠ X := fun q => a (by rw [q]; exact hX)
  refine ⟨by rw [hT i hne]; exact a, ?_⟩
  show up1 ad1.1 X q i = _
  simp [up1, hne, b]
theorem lvv.new {w w1 : AW} {X : Nat} {v : Value} (h : lvv w v) (hX : wT w X = 0) (hT : ∀ j, j ≠ X → wT w1 j = wT w j) : lvv w1 v := fun i hi => by
  have h1 := h i hi
  rw [hT i (fun q => h1 (by rw [q]; exact hX))]; exact h1
theorem lok.new {ls : Array Slot} {nL : Nat} {ad : AM} {L : AL} {w : AW} {X q : Nat} (h : lok ls nL ad L) (hX : wT w X = 0) (hv : ∀ j v, L j = some v → lvv w v) : lok ls nL (up1 ad.1 X q, ad.2) L := ⟨h.1, h.2.1, fun j v hj => by rw [cv_new hX (hv j v hj)]; exact h.2.2 j v hj⟩
theorem map_new {ad : AM} {w : AW} {X q : Nat} {st : List Value} (hX : wT w X = 0) (hv : ∀ v ∈ st, lvv w v) : st.map (cv (up1 ad.1 X q, ad.2)) = st.map (cv ad) := List.map_congr_left (fun v hv' => cv_new hX (hv v hv'))
/-- a thing was made: its cell is the heap's last -/
theorem so_made (C : Cx p l R s m args meth c E S cc mc ms) {pc X sl : Nat} {L : AL} {t : List Value} {w w1 : AW} {b : Nat × Nat} {ad : AM} {H H1 : Heap} {locs : List Loc} {ls : Array Slot} {cells slots : Nat} (hX : wT w X = 0) (hz : H1.size = H.size + 1) (ho : ∀ q, q < H.size → H1[q]? = H[q]?) (hT1 : wT w1 X ≠ 0) (hT : ∀ j, j ≠ X → wT w1 j = wT w j) (hI : ∀ k j, j ≠ X → wI w1 k j = wI w k j) (hR : ∀ k j, j ≠ X → wR w1 k j = wR w k j) (hN : ∀ j, j ≠ X → wN w1 j = wN w j) (hA : ∀ j, j ≠ X → wA w1 j = wA w j) (hJ : ∀ j, j ≠ X → wJ w1 j = wJ w j) (hP : ∀ j, j ≠ X → wP w1 j = wP w j) (hL : ∀ j, j ≠ X → wL w1 j = wL w j) (hT40 : wT w1 X < 40) (hcl : ∀ k, wR w1 k X = none) (hclP : ∀ k, wP w1 X k = none) (hclL : wL w1 X = [])
    (hc : cOK E (up1 ad.1 X H.size, ad.2) w1 H1 X) (k : Sm p l e R s m args below meth c E S mc ms w0 ad0 Q pc L (.ref X :: t) w1 (b.1 - 1, b.2 - sl)) (h1 : Conc E ad w H) (h2 : lok ls S.2.1 ad L) (h3 : ∀ j v, L j = some v → lvv w v) (h4 : ∀ v ∈ t, lvv w v) (h5 : va_S (fun q => E.2.2 ≤ q) s.heap H locs) (h6 : cells + b.1 ≤ mc) (h7 : slots + b.2 ≤ ms) (h8 : mExt ad0 w0 ad w) (hb1 : 1 ≤ b.1) (hb2 : sl ≤ b.2) :
    W p l e R s m args below meth c H1 locs (cells + 1) (slots + sl) (vx_MQ below (mQc E ad0 w0 Q) (mXc E ad0 w0 Q) args s mc ms (fun q => E.2.2 ≤ q)) (F0 m pc ls (.ref H.size :: t.map (cv ad))) := by
  obtain ⟨-, -, -, -, -, -, -, -, hbase, -⟩ := C
  have hE : E.2.2 ≤ H.size := Nat.le_trans hbase h5.1
  have hC1 := h1.new hX hz hE ho hT40 hT hI hR hN hA hJ hP hL hc hcl (fun _ => hclP) hclL
  have kk := k (up1 ad.1 X H.size, ad.2) H1 locs ls (cells + 1) (slots + sl) hC1 (h2.new hX h3) (fun j v hj => (h3 j v hj).new hX hT) (lcv (fun i hi => by cases hi; exact hT1) (fun v hv => (h4 v hv).new hX hT)) (h5.push hz ho) (by dsimp only; omega) (by dsimp only; omega) (h8.new hX hT)
  rw [List.map_cons, map_new hX h4] at kk
  have e1 : cv (up1 ad.1 X H.size, ad.2) (.ref X) = .ref H.size := by show Value.ref (up1 ad.1 X H.size X) = _; simp [up1]
  rw [e1] at kk
  exact kk
theorem so_new (C : Cx p l R s m args meth c E S cc mc ms) {pc n c0 X : Nat} {L : AL} {t : List Value} {w : AW} {b : Nat × Nat} (hd : decode cc pc = .ok (.new n, 3)) (hf : c0 < 13 ∧ Cond.classLink S.1 n (vRn c0) ∈ TBL ∧ Cond.instantiable (vRn c0) (vnn c0) ∈ TBL ∧ Cond.initialized (vRn c0) ∈ TBL) (hb1 : 1 ≤ b.1) (hb2 : vnn c0 ≤ b.2) (hX : wT w X = 0) (k : Sm p l e R s m args below meth c E S mc ms w0 ad0 Q (pc + 3) L (.ref X :: t) (nO w X (c0 + 1)) (b.1 - 1, b.2 - vnn c0)) : Sm p l e R s m args below meth c E S mc ms w0 ad0 Q pc L t w b := by
  intro ad H locs ls cells slots h1 h2 h3 h4 h5 h6 h7 h8
  obtain ⟨hx, hb, -, hown, hts, hK, -, -, -, hrc, hrs, -⟩ := id C
  obtain ⟨hc0, w1, w2, w3⟩ := hf
  have hKn := hK.1 c0 hc0
  refine W.newcK hx hb hown (hts _ w1) (hts _ w2) (hts _ w3) rfl hd (by rw [hrc]; omega) (by rw [hrs]; omega) hKn.2.1 rfl fun H1 kC hkC e1 z1 o1 => ?_
  have hTX : wT (nO w X (c0 + 1)) X = c0 + 1 := by rw [wT_nO, if_pos rfl]
  refine so_made (w1 := nO w X (c0 + 1)) C hX z1 o1 (by rw [hTX]; omega) (fun j hj => by rw [wT_nO, if_neg hj]) (fun k j hj => by rw [wI_nO, if_neg hj]) (fun k j hj => by rw [wR_nO, if_neg hj]) (fun j hj => rfl) (fun j hj => rfl) (fun j hj => rfl) (fun j hj => by funext q; rw [wP_nO, if_neg hj]) (fun j hj => by rw [wL_nO, if_neg hj]) (by rw [hTX]; omega) (fun k => by rw [wR_nO, if_pos rfl]) (fun k => by rw [wP_nO, if_pos rfl]) (by rw [wL_nO, if_pos rfl]) (cOK.obj (c := c0) hc0 hTX ?_) k h1 h2 h3 h4 h5 h6 h7 h8 hb1 hb2
  have hself : up1 ad.1 X H.size X = H.size := by simp [up1]
  show t_OB (up1 ad.1 X H.size X) _ _ _ _ _
  rw [hself]
  refine (u_born (vty c0) hts (cw_all c0 hc0) hKn hkC e1 (cw_ty c0 hc0)).to (fun k _ => ?_)
  unfold fv
  rw [wR_nO, wI_nO, if_pos rfl, if_pos rfl]
  rcases vty_kind c0 k with h | ⟨q, h⟩ | ⟨q, h⟩ <;> rw [h] <;> rfl
theorem so_newarray_int (C : Cx p l R s m args meth c E S cc mc ms) {pc X : Nat} {n : Int32} {L : AL} {t : List Value} {w : AW} {b : Nat × Nat} (hd : decode cc pc = .ok (.newarray .int, 2)) (hn : ¬ n < 0) (hb8 : n.toNatClampNeg * 8 ≤ 536870912) (hb1 : 1 ≤ b.1) (hb2 : n.toNatClampNeg ≤ b.2) (hX : wT w X = 0) (k : Sm p l e R s m args below meth c E S mc ms w0 ad0 Q (pc + 2) L (.ref X :: t) (nA w X 20 n.toNatClampNeg) (b.1 - 1, b.2 - n.toNatClampNeg)) : Sm p l e R s m args below meth c E S mc ms w0 ad0 Q pc L (.int n :: t) w b := by
  intro ad H locs ls cells slots h1 h2 h3 h4 h5 h6 h7 h8
  obtain ⟨hx, hb, -, hown, hts, hK, -, -, -, hrc, hrs, -⟩ := id C
  refine va_newaK (atype := .int) hx hb (hts _ aw_int) rfl hd rfl hn rfl (by simp only [newarray.typeOf, componentBytes]; omega) (by rw [hrc]; omega) (by rw [hrs]; omega) rfl fun H1 cA e1 z1 o1 hAr hNm => ?_
  have hTX : wT (nA w X 20 n.toNatClampNeg) X = 20 := by rw [wT_nA, if_pos rfl]
  refine so_made (w1 := nA w X 20 n.toNatClampNeg) C hX z1 o1 (by rw [hTX]; omega) (fun j hj => by rw [wT_nA, if_neg hj]) (fun k j hj => by rw [wI_nA, if_neg hj]) (fun k j hj => by rw [wR_nA, if_neg hj]) (fun j hj => by rw [wN_nA, if_neg hj]) (fun j hj => by funext q; rw [wA_nA, if_neg hj]) (fun j hj => by funext q; rw [wJ_nA, if_neg hj]) (fun j hj => by funext q; rw [wP_nA, if_neg hj]) (fun j hj => by rw [wL_nA, if_neg hj]) (by rw [hTX]; omega) (fun k => by rw [wR_nA, if_pos rfl]) (fun k => by rw [wP_nA, if_pos rfl]) (by rw [wL_nA, if_pos rfl]) (cOK.a20 hTX ?_) k h1 h2 h3 (lt1 h4) h5 h6 h7 h8 hb1 hb2
  · have hself : up1 ad.1 X H.size X = H.size := by simp [up1]
    show H1[up1 ad.1 X H.size X]? = _
    have ecA : cA = _ := Option.some.inj (hNm.symm.trans hK.2.1.2)
    rw [hself, e1, wN_nA, if_pos rfl, ecA, funext (f := fun j => Value.int (wA (nA w X 20 n.toNatClampNeg) X j)) (g := fun _ => defaultValue .int) (fun j => by rw [wA_nA, if_pos rfl]; rfl)]
    rfl
theorem so_newarray_byte (C : Cx p l R s m args meth c E S cc mc ms) {pc X : Nat} {n : Int32} {L : AL} {t : List Value} {w : AW} {b : Nat × Nat} (hd : decode cc pc = .ok (.newarray .byte, 2)) (hn : ¬ n < 0) (hb8 : n.toNatClampNeg * 8 ≤ 536870912) (hb1 : 1 ≤ b.1) (hb2 : n.toNatClampNeg ≤ b.2) (hX : wT w X = 0) (k : Sm p l e R s m args below meth c E S mc ms w0 ad0 Q (pc + 2) L (.ref X :: t) (nA w X 21 n.toNatClampNeg) (b.1 - 1, b.2 - n.toNatClampNeg)) : Sm p l e R s m args below meth c E S mc ms w0 ad0 Q pc L (.int n :: t) w b := by
  intro ad H locs ls cells slots h1 h2 h3 h4 h5 h6 h7 h8
  obtain ⟨hx, hb, -, hown, hts, hK, -, -, -, hrc, hrs, -⟩ := id C
  refine va_newaK (atype := .byte) hx hb (hts _ aw_byte) rfl hd rfl hn rfl (by simp only [newarray.typeOf, componentBytes]; omega) (by rw [hrc]; omega) (by rw [hrs]; omega) rfl fun H1 cA e1 z1 o1 hAr hNm => ?_
  have hTX : wT (nA w X 21 n.toNatClampNeg) X = 21 := by rw [wT_nA, if_pos rfl]
  refine so_made (w1 := nA w X 21 n.toNatClampNeg) C hX z1 o1 (by rw [hTX]; omega) (fun j hj => by rw [wT_nA, if_neg hj]) (fun k j hj => by rw [wI_nA, if_neg hj]) (fun k j hj => by rw [wR_nA, if_neg hj]) (fun j hj => by rw [wN_nA, if_neg hj]) (fun j hj => by funext q; rw [wA_nA, if_neg hj]) (fun j hj => by funext q; rw [wJ_nA, if_neg hj]) (fun j hj => by funext q; rw [wP_nA, if_neg hj]) (fun j hj => by rw [wL_nA, if_neg hj]) (by rw [hTX]; omega) (fun k => by rw [wR_nA, if_pos rfl]) (fun k => by rw [wP_nA, if_pos rfl]) (by rw [wL_nA, if_pos rfl]) (cOK.a21 hTX ?_) k h1 h2 h3 (lt1 h4) h5 h6 h7 h8 hb1 hb2
  · have hself : up1 ad.1 X H.size X = H.size := by simp [up1]
    show H1[up1 ad.1 X H.size X]? = _
    have ecA : cA = _ := Option.some.inj (hNm.symm.trans hK.2.2.1.2)
    rw [hself, e1, wN_nA, if_pos rfl, ecA, funext (f := fun j => Value.int (wA (nA w X 21 n.toNatClampNeg) X j)) (g := fun _ => defaultValue .byte) (fun j => by rw [wA_nA, if_pos rfl]; rfl)]
    rfl
theorem so_newarray_long (C : Cx p l R s m args meth c E S cc mc ms) {pc X : Nat} {n : Int32} {L : AL} {t : List Value} {w : AW} {b : Nat × Nat} (hd : decode cc pc = .ok (.newarray .long, 2)) (hn : ¬ n < 0) (hb8 : n.toNatClampNeg * 8 ≤ 536870912) (hb1 : 1 ≤ b.1) (hb2 : n.toNatClampNeg ≤ b.2) (hX : wT w X = 0) (k : Sm p l e R s m args below meth c E S mc ms w0 ad0 Q (pc + 2) L (.ref X :: t) (nA w X 22 n.toNatClampNeg) (b.1 - 1, b.2 - n.toNatClampNeg)) : Sm p l e R s m args below meth c E S mc ms w0 ad0 Q pc L (.int n :: t) w b := by
  intro ad H locs ls cells slots h1 h2 h3 h4 h5 h6 h7 h8
  obtain ⟨hx, hb, -, hown, hts, hK, -, -, -, hrc, hrs, -⟩ := id C
  refine va_newaK (atype := .long) hx hb (hts _ aw_long) rfl hd rfl hn rfl (by simp only [newarray.typeOf, componentBytes]; omega) (by rw [hrc]; omega) (by rw [hrs]; omega) rfl fun H1 cA e1 z1 o1 hAr hNm => ?_
  have hTX : wT (nA w X 22 n.toNatClampNeg) X = 22 := by rw [wT_nA, if_pos rfl]
  refine so_made (w1 := nA w X 22 n.toNatClampNeg) C hX z1 o1 (by rw [hTX]; omega) (fun j hj => by rw [wT_nA, if_neg hj]) (fun k j hj => by rw [wI_nA, if_neg hj]) (fun k j hj => by rw [wR_nA, if_neg hj]) (fun j hj => by rw [wN_nA, if_neg hj]) (fun j hj => by funext q; rw [wA_nA, if_neg hj]) (fun j hj => by funext q; rw [wJ_nA, if_neg hj]) (fun j hj => by funext q; rw [wP_nA, if_neg hj]) (fun j hj => by rw [wL_nA, if_neg hj]) (by rw [hTX]; omega) (fun k => by rw [wR_nA, if_pos rfl]) (fun k => by rw [wP_nA, if_pos rfl]) (by rw [wL_nA, if_pos rfl]) (cOK.a22 hTX ?_) k h1 h2 h3 (lt1 h4) h5 h6 h7 h8 hb1 hb2
  · have hself : up1 ad.1 X H.size X = H.size := by simp [up1]
    show H1[up1 ad.1 X H.size X]? = _
    have ecA : cA = _ := Option.some.inj (hNm.symm.trans hK.2.2.2.2)
    rw [hself, e1, wN_nA, if_pos rfl, ecA, funext (f := fun j => Value.long (wJ (nA w X 22 n.toNatClampNeg) X j)) (g := fun _ => defaultValue .long) (fun j => by rw [wJ_nA, if_pos rfl]; rfl)]
    rfl
theorem so_end {w : AW} {r : Option Value} {ad : AM} {H : Heap} {locs : List Loc} (h1 : Conc E ad w H) (h5 : va_S (fun q => E.2.2 ≤ q) s.heap H locs) (h8 : mExt ad0 w0 ad w) (hr : ∀ v, r = some v → lvv w v) (hq : Q (.inl r) w) : ∀ t : State, t.heap = H → s.WarmedH t.vm → mQc E ad0 w0 Q args s (.returned (r.map (cv ad))) t := fun t ht _ => ⟨r, w, ad, rfl, hq, by rw [ht]; exact h1, h8, hr, h5.F ht⟩
theorem so_ireturn (C : Cx p l R s m args meth c E S cc mc ms) {pc : Nat} {x : Int32} {ty : FieldType} {L : AL} {w : AW} {b : Nat × Nat} (hd : decode cc pc = .ok (.ireturn, 1)) (hty : S.2.2.1 = some ty) (hn : narrow ty (.int x) = .int x) (hq : Q (.inl (some (.int x))) w) : Sm p l e R s m args below meth c E S mc ms w0 ad0 Q pc L [.int x] w b := by
  intro ad H locs ls cells slots h1 h2 h3 h4 h5 h6 h7 h8
  obtain ⟨hx, hb, -, hown, hts, hK, hr, hlocks, -⟩ := C
  refine vx_ret (W.widen (k := mc) (n := ms) (by omega) (by omega) ?_)
  exact W.zret hx hb (by rw [hr]; exact hty) hn (so_end (r := some (.int x)) h1 h5 h8 (fun v hv => by cases hv; exact lvv_int _ _) hq) h5.2.2 hd hlocks
theorem so_lreturn (C : Cx p l R s m args meth c E S cc mc ms) {pc : Nat} {x : Int64} {L : AL} {w : AW} {b : Nat × Nat} (hd : decode cc pc = .ok (.lreturn, 1)) (hty : S.2.2.1 = some .long) (hq : Q (.inl (some (.long x))) w) : Sm p l e R s m args below meth c E S mc ms w0 ad0 Q pc L [.long x] w b := by
  intro ad H locs ls cells slots h1 h2 h3 h4 h5 h6 h7 h8
  obtain ⟨hx, hb, -, hown, hts, hK, hr, hlocks, -⟩ := C
  refine vx_ret (W.widen (k := mc) (n := ms) (by omega) (by omega) ?_)
  exact W.lret hx hb (by rw [hr]; exact hty) (so_end (r := some (.long x)) h1 h5 h8 (fun v hv => by cases hv; exact lvv_long _ _) hq) h5.2.2 hd hlocks
theorem so_areturn (C : Cx p l R s m args meth c E S cc mc ms) {pc : Nat} {r : Option Nat} {ty : FieldType} {L : AL} {w : AW} {b : Nat × Nat} (hd : decode cc pc = .ok (.areturn, 1)) (hty : S.2.2.1 = some ty) (hrt : (∃ n, ty = .object n) ∨ ∃ t, ty = .array t) (hq : Q (.inl (some (va_rf r))) w) : Sm p l e R s m args below meth c E S mc ms w0 ad0 Q pc L [va_rf r] w b := by
  intro ad H locs ls cells slots h1 h2 h3 h4 h5 h6 h7 h8
  obtain ⟨hx, hb, -, hown, hts, hK, hr, hlocks, -⟩ := C
  refine vx_ret (W.widen (k := mc) (n := ms) (by omega) (by omega) ?_)
  refine W.aret hx hb (by rw [hr]; exact hty) hrt ?_ (so_end (r := some (va_rf r)) h1 h5 h8 (fun v hv => by cases hv; exact lh1 h4) hq) h5.2.2 hd hlocks
  rw [cv_rf]
  cases r with
  | none => exact Or.inl rfl
  | some a => exact Or.inr ⟨_, rfl⟩
theorem so_return (C : Cx p l R s m args meth c E S cc mc ms) {pc : Nat} {L : AL} {w : AW} {b : Nat × Nat} (hd : decode cc pc = .ok (.return_, 1)) (hty : S.2.2.1 = none) (hq : Q (.inl none) w) : Sm p l e R s m args below meth c E S mc ms w0 ad0 Q pc L [] w b := by
  intro ad H locs ls cells slots h1 h2 h3 h4 h5 h6 h7 h8
  obtain ⟨hx, hb, -, hown, hts, hK, hr, hlocks, -⟩ := C
  refine vx_ret (W.widen (k := mc) (n := ms) (by omega) (by omega) ?_)
  exact W.vret hx hb (by rw [hr]; exact hty) (so_end (r := none) h1 h5 h8 (fun v hv => by cases hv) hq) h5.2.2 hd hlocks
theorem wsum_map (ad : AM) (t : List Value) : ((t.map (cv ad)).map fun v => v.category).sum = wsum t := by
  unfold wsum
  rw [List.map_map]
  congr 1
  exact List.map_congr_left (fun v _ => cv_cat ad v)
/-- behind a call that may throw -/
theorem so_run (C : Cx p l R s m args meth c E S cc mc ms) {pc kc ks : Nat} {L : AL} {t : List Value} {st0 : List Value} {w : AW} {b : Nat × Nat} {Q1 : AO → AW → Prop} {av : Array Value} {ad : AM} {H : Heap} {locs : List Loc} {ls : Array Slot} {cells slots : Nat}
    (hrun : vx_Run p l e R s m args below meth c H locs cells slots kc ks (F0 m pc ls st0) (t.map (cv ad)) (mQc E ad w Q1 av) (mXc E ad w Q1) (fun q => E.2.2 ≤ q))
    (k1 : ∀ v w1, Q1 (.inl v) w1 → Sm p l e R s m args below meth c E S mc ms w0 ad0 Q (pc + 3) L (v.toList ++ t) w1 (b.1 - kc, b.2 - ks)) (k2 : ∀ C w1, Q1 (.inr C) w1 → Q (.inr C) w1)
    (h1 : Conc E ad w H) (h2 : lok ls S.2.1 ad L) (h3 : ∀ j v, L j = some v → lvv w v) (h4 : ∀ v ∈ t, lvv w v) (h5 : va_S (fun q => E.2.2 ≤ q) s.heap H locs) (h6 : cells + b.1 ≤ mc) (h7 : slots + b.2 ≤ ms) (h8 : mExt ad0 w0 ad w) (hb1 : kc ≤ b.1) (hb2 : ks ≤ b.2) :
    W p l e R s m args below meth c H locs cells slots (vx_MQ below (mQc E ad0 w0 Q) (mXc E ad0 w0 Q) args s mc ms (fun q => E.2.2 ≤ q)) (F0 m pc ls st0) := by
  obtain ⟨hx, hb, hml, hown, hts, hK, hr, hlocks, hbase, hrc, hrs, -, htab, -⟩ := C
  intro T hT X
  rcases hrun T hT X with ⟨v, st₀, t1, T', L1, h0, X', hL, e1, e2, ⟨r, w1, ad1, hv, hq, hC1, hext, hlv, hF⟩, st⟩ | ⟨q, st₀, t1, T', L1, Ec, ce, h0, X', hL, e1, e2, ⟨w1, ad1, hq, hC1, hext, hF⟩, hce, hcv, hcl, st⟩
  · obtain ⟨-, -, kS⟩ := vx_keep h0 e1 h5 (fun q _ h => h) (fun q h => h) hL hF
    have hsame : ∀ i, wT w i ≠ 0 → ad1.1 i = ad.1 i := fun i hi => (hext i hi).2
    have hmono : ∀ u, lvv w u → lvv w1 u := fun u hu i hi => (hext i (hu i hi)).1
    have kk := k1 r w1 hq ad1 T'.heap (locs ++ L1) ls (cells + kc) (slots + ks) (by rw [e1]; exact hC1) ⟨h2.1, h2.2.1, fun j u hj => by rw [cv_same hsame (h3 j u hj)]; exact h2.2.2 j u hj⟩ (fun j u hj => hmono u (h3 j u hj))
      (fun u hu => by
        rcases List.mem_append.mp hu with h | h
        · cases r with
          | none => cases h
          | some z => rw [Option.toList_some, List.mem_singleton] at h; subst h; exact hlv _ rfl
        · exact hmono u (h4 u h)) kS (by dsimp only; omega) (by dsimp only; omega) (fun i hi => by obtain ⟨a, b⟩ := h8 i hi; obtain ⟨a2, b2⟩ := hext i a; exact ⟨a2, b2.trans b⟩)
    obtain ⟨t2, a1, b1⟩ := kk T' rfl X'
    refine ⟨t2, st t2 ?_, b1⟩
    have ev : v = r.map (cv ad1) := by cases hv; rfl
    have estk : (r.toList ++ t).map (cv ad1) = v.toList ++ t.map (cv ad) := by
      rw [List.map_append, ev, List.map_congr_left (fun u hu => cv_same hsame (h4 u hu))]
      cases r <;> rfl
    rw [estk] at a1
    exact a1
  · obtain ⟨-, -, kS⟩ := vx_keep h0 e1 h5 (fun q _ h => h) (fun q h => h) hL hF
    have ho := vx_out (Qc := mQc E ad0 w0 Q) (XC := mXc E ad0 w0 Q) (p := p) (l := l) (e := e) (R := R) (s := s) (m := m) (args := args) (below := below) (meth := meth) (c := c) (H := T'.heap) (locs := locs ++ L1) (cells := cells + kc) (slots := slots + ks) (mc := mc) (ms := ms) (free := fun q => E.2.2 ≤ q) (pc := pc) (ls := ls) (rest := t.map (cv ad)) (fun x hx => (htab x hx).elim) hlocks (by rw [e1]; exact hce) hcv hcl
      (fun tt htt _ => ⟨w1, ad1, k2 _ _ hq, by rw [htt, e1]; exact hC1, fun i hi => by obtain ⟨a, b⟩ := h8 i hi; obtain ⟨a2, b2⟩ := hext i a; exact ⟨a2, b2.trans b⟩, kS.F htt⟩) kS.2.2 (by omega) (by omega)
    obtain ⟨t2, a1, b1⟩ := ho T' rfl X'
    exact ⟨t2, st.trans a1, b1⟩
theorem so_pay {own : String} {idx n maxL fr lo kc ks : Nat} {y : MethodName} {bytes : ByteArray} {ret : Option FieldType} (hts : ∀ w ∈ TBL, w.before args s = true) (hfr : fr + 1 ≤ R.frames) (hlo : 8 + (maxL + 11) + lo ≤ R.locals) (hco : Cond.code y bytes maxL ret ∈ TBL) (hin : Cond.initialized y.cls ∈ TBL) (hli : Cond.methodLink own idx y ∈ TBL) (hnm : y.cls ≠ "java/lang/invoke/MethodHandle" ∧ y.cls ≠ "java/lang/invoke/VarHandle" ∧ (parseMethodDescriptor y.desc).map (fun d => d.parameters.length) = some n) :
    CallB R s args own idx y bytes maxL ret (.code y bytes maxL ret :: TBL) { frames := fr, cells := kc, slots := ks, locals := lo } kc ks n :=
  callB_of n hts (fun w h => by
    rcases List.mem_cons.mp h with rfl | h
    · exact ⟨hco, TBL_good hco⟩
    · exact ⟨h, TBL_good h⟩) rfl rfl rfl (hts _ hin) (hts _ hli) hnm ⟨hfr, hlo⟩
theorem so_pre {E : AE} {ad : AM} {w : AW} {H : Heap} {locs : List Loc} {as : List Value} (h1 : Conc E ad w H) (hK : KK E s) (hbase : E.2.2 ≤ H.size) (hKY : KY E s s.heap) (h5 : va_S (fun q => E.2.2 ≤ q) s.heap H locs) : ∀ U : State, U.heap = H → s.WarmedH U.vm → mPc E ad w as (as.map (cv ad)).toArray U := fun U hU hW => ⟨rfl, by rw [hU]; exact h1, hK.moved hW.alike, by rw [hU]; exact hbase, by rw [hU]; exact (hKY.kept h5.2.1).warm hW⟩
theorem so_static (C : Cx p l R s m args meth c E S cc mc ms) (V : MV l R E S.1 cc M) {pc n : Nat} {L : AL} {as t : List Value} {w : AW} {b : Nat × Nat} {ci : CI} {Q1 : AO → AW → Prop} (hd : decode cc pc = .ok (.invokestatic n, 3)) (hG : M.2.2.1 n = some ci) (h0 : ci.1 = 0) (hlen : as.length = ci.2.1) (hsum : wsum t ≤ 8) (hb1 : ci.2.2.1 ≤ b.1) (hb2 : ci.2.2.2.1 ≤ b.2) (hsp : ci.2.2.2.2 as w Q1)
    (k1 : ∀ v w1, Q1 (.inl v) w1 → Sm p l e R s m args below meth c E S mc ms w0 ad0 Q (pc + 3) L (v.toList ++ t) w1 (b.1 - ci.2.2.1, b.2 - ci.2.2.2.1)) (k2 : ∀ C w1, Q1 (.inr C) w1 → Q (.inr C) w1) : Sm p l e R s m args below meth c E S mc ms w0 ad0 Q pc L (as.reverse ++ t) w b := by
  intro ad H locs ls cells slots h1 h2 h3 h4 h5 h6 h7 h8
  obtain ⟨hx, hb, hml, hown, hts, hK, hr, hlocks, hbase, hrc, hrs, -, -, hst, hKY⟩ := id C
  obtain ⟨y, bytes, maxL, ret, fr, lo, np, hM, hfr, hlo, hco, hin, hli, hnm, hst0, -, -, -⟩ := (V.2.2.1 n ci hG).2.2.2.2.2.2 (by omega)
  obtain ⟨hstt, hnn⟩ := hst0 h0
  have has : ∀ v ∈ as, lvv w v := fun v hv => h4 v (List.mem_append_left _ (List.mem_reverse.mpr hv))
  have ht : ∀ v ∈ t, lvv w v := fun v hv => h4 v (List.mem_append_right _ hv)
  have hMet := hM as w Q1 hsp hst ad has
  refine so_run (t := t) (kc := ci.2.2.1) (ks := ci.2.2.2.1) (b := b) (Q1 := Q1) (av := (as.map (cv ad)).toArray) C ?_ k1 k2 h1 h2 h3 ht h5 h6 h7 h8 hb1 hb2
  exact vx_runS (Ts := TBL) (As := as.map (cv ad)) (rest := t.map (cv ad)) ⟨hx, hb, hml, hown, hts⟩ hMet ⟨so_pay hts hfr hlo hco hin (hli (by omega)) hnm, hts _ hstt⟩ ⟨mPc_blind E ad w as, so_pre h1 hK (Nat.le_trans hbase h5.1) hKY h5⟩ rfl (by rw [List.length_map, hlen, hnn]) h2.1 (by rw [List.map_append, List.map_reverse]) (lv_room (by rw [wsum_map]; exact hsum)) hd ⟨by rw [hrc]; omega, by rw [hrs]; omega⟩
theorem so_virtual (C : Cx p l R s m args meth c E S cc mc ms) (V : MV l R E S.1 cc M) {pc n i : Nat} {L : AL} {r t : List Value} {w : AW} {b : Nat × Nat} {ci : CI} {Q1 : AO → AW → Prop} (hd : decode cc pc = .ok (.invokevirtual n, 3)) (hG : M.2.2.1 n = some ci) (hT : ci.1 = wT w i) (h0 : 1 ≤ ci.1) (h13 : ci.1 ≤ 13) (hlen : (Value.ref i :: r).length = ci.2.1) (hsum : wsum t ≤ 8) (hb1 : ci.2.2.1 ≤ b.1) (hb2 : ci.2.2.2.1 ≤ b.2) (hsp : ci.2.2.2.2 (.ref i :: r) w Q1)
    (k1 : ∀ v w1, Q1 (.inl v) w1 → Sm p l e R s m args below meth c E S mc ms w0 ad0 Q (pc + 3) L (v.toList ++ t) w1 (b.1 - ci.2.2.1, b.2 - ci.2.2.2.1)) (k2 : ∀ C w1, Q1 (.inr C) w1 → Q (.inr C) w1) : Sm p l e R s m args below meth c E S mc ms w0 ad0 Q pc L ((Value.ref i :: r).reverse ++ t) w b := by
  intro ad H locs ls cells slots h1 h2 h3 h4 h5 h6 h7 h8
  obtain ⟨hx, hb, hml, hown, hts, hK, hr, hlocks, hbase, hrc, hrs, -, -, hst, hKY⟩ := id C
  obtain ⟨y, bytes, maxL, ret, fr, lo, np, hM, hfr, hlo, hco, hin, hli, hnm, -, hvi, -, -⟩ := (V.2.2.1 n ci hG).2.2.2.2.2.2 (by omega)
  obtain ⟨hinst, hsel, hcls, hnn⟩ := hvi h0 (by omega)
  rw [if_neg (by omega), if_neg (by omega)] at hcls
  have has : ∀ v ∈ (Value.ref i :: r), lvv w v := fun v hv => h4 v (List.mem_append_left _ (List.mem_reverse.mpr hv))
  have ht : ∀ v ∈ t, lvv w v := fun v hv => h4 v (List.mem_append_right _ hv)
  have hMet := hM (.ref i :: r) w Q1 hsp hst ad has
  have hTi : wT w i = (ci.1 - 1) + 1 := by omega
  obtain ⟨cell, q1, q2, q3, -⟩ := (h1.2.2.1 i).1 (ci.1 - 1) (by omega) hTi
  refine so_run (t := t) (kc := ci.2.2.1) (ks := ci.2.2.2.1) (b := b) (Q1 := Q1) (av := ((Value.ref i :: r).map (cv ad)).toArray) C ?_ k1 k2 h1 h2 h3 ht h5 h6 h7 h8 hb1 hb2
  exact vx_runV (Ts := TBL) (C := y.cls) (b := ad.1 i) (As := r.map (cv ad)) (rest := t.map (cv ad)) ⟨hx, hb, hml, hown, hts⟩ hMet ⟨so_pay hts hfr hlo hco hin (hli (by omega)) hnm, hts _ hinst, hts _ hsel⟩ ⟨mPc_blind E ad w _, ⟨cell, q1, by rw [q3]; rfl, by rw [hcls, q2]; exact (hK.1 (ci.1 - 1) (by omega)).2.1⟩, so_pre h1 hK (Nat.le_trans hbase h5.1) hKY h5⟩ rfl (by rw [List.length_map]; rw [List.length_cons] at hlen; omega) h2.1 (by rw [List.map_append, List.map_reverse, List.map_cons, List.reverse_cons, List.append_assoc]; rfl) (lv_room (by rw [wsum_map]; exact hsum)) hd ⟨by rw [hrc]; omega, by rw [hrs]; omega⟩
theorem so_objinit (C : Cx p l R s m args meth c E S cc mc ms) (V : MV l R E S.1 cc M) {pc n i : Nat} {L : AL} {t : List Value} {w : AW} {b : Nat × Nat} {ci : CI} (hd : decode cc pc = .ok (.invokespecial n, 3)) (hG : M.2.2.1 n = some ci) (h0 : ci.1 = 99) (hsum : wsum t ≤ 8) (k : Sm p l e R s m args below meth c E S mc ms w0 ad0 Q (pc + 3) L t w b) : Sm p l e R s m args below meth c E S mc ms w0 ad0 Q pc L (.ref i :: t) w b := by
  intro ad H locs ls cells slots h1 h2 h3 h4 h5 h6 h7 h8
  obtain ⟨hx, hb, hml, hown, hts, hK, hr, hlocks, hbase, hrc, hrs, -⟩ := id C
  obtain ⟨hli, hf1, hf2⟩ := (V.2.2.1 n ci hG).1 h0
  refine W.objInit (a := ad.1 i) (rest := t.map (cv ad)) hx hb hown (hts _ hli) (hts _ ow_inst) (hts _ ow_code) rfl (h2.1.trans hml.symm) rfl hd hf1 ?_ (k ad H locs ls cells slots h1 h2 h3 (lt1 h4) h5 h6 h7 h8)
  have := lv_room (m := m) (pc := pc) (ls := ls) (rest := []) (st := t.map (cv ad)) (by rw [wsum_map]; exact hsum)
  have e9 : (F0 m pc ls (List.map (cv ad) (Value.ref i :: t))).monitorRoom = (F0 m pc ls []).monitorRoom := rfl
  rw [e9]
  omega
end SEM2
