section STEPS
variable {S : MS} {M : MT} {Q : AO → AW → Prop} {K : XP} {pc : Nat} {L : AL} {st : List Value} {w : AW} {b : Nat × Nat}
def isRfV (v : Value) : Prop := v = .null ∨ ∃ i, v = .ref i
theorem isRfV_ref (i : Nat) : isRfV (.ref i) = True := eq_true (Or.inr ⟨i, rfl⟩)
theorem isRfV_null : isRfV .null = True := eq_true (Or.inl rfl)
theorem isRfV_rf (r : Option Nat) : isRfV (va_rf r) = True := by cases r <;> exact eq_true (by first | exact Or.inl rfl | exact Or.inr ⟨_, rfl⟩)
theorem rfV_iff {v : Value} : isRfV v ↔ ∃ r, v = va_rf r := ⟨fun h => by
  rcases h with rfl | ⟨i, rfl⟩
  · exact ⟨none, rfl⟩
  · exact ⟨some i, rfl⟩, fun ⟨r, h⟩ => by rw [h, isRfV_rf]; trivial⟩
theorem va_rf_some (i : Nat) : va_rf (some i) = .ref i := Eq.trans rfl rfl
theorem va_rf_none : va_rf none = .null := Eq.trans rfl rfl
def kl (o : Option Value) : Option Value := match o with
  | some (.long _) => none
  | some (.double _) => none
  | o => o
theorem kl_int (x : Int32) : kl (some (.int x)) = some (.int x) := Eq.trans rfl rfl
theorem kl_ref (x : Nat) : kl (some (.ref x)) = some (.ref x) := Eq.trans rfl rfl
theorem kl_null : kl (some .null) = some .null := Eq.trans rfl rfl
theorem kl_rf (r : Option Nat) : kl (some (va_rf r)) = some (va_rf r) := by cases r <;> rfl
theorem kl_none : kl none = none := Eq.trans rfl rfl
theorem kl_long (x : Int64) : kl (some (.long x)) = none := Eq.trans rfl rfl
theorem ls1_at (L : AL) (i : Nat) (v : Value) (j : Nat) : ls1 L i v j = if j = i then some v else if j + 1 = i then kl (L j) else L j := Eq.trans rfl rfl
theorem ls2_at (L : AL) (i : Nat) (v : Value) (j : Nat) : ls2 L i v j = if j = i then some v else if j = i + 1 then none else if j + 1 = i then kl (L j) else L j := Eq.trans rfl rfl
theorem wsum_nil : wsum [] = 0 := Eq.trans rfl rfl
theorem wsum_int (x : Int32) (t : List Value) : wsum (.int x :: t) = 1 + wsum t := Eq.trans rfl rfl
theorem wsum_ref (x : Nat) (t : List Value) : wsum (.ref x :: t) = 1 + wsum t := Eq.trans rfl rfl
theorem wsum_null (t : List Value) : wsum (.null :: t) = 1 + wsum t := Eq.trans rfl rfl
theorem wsum_rf (r : Option Nat) (t : List Value) : wsum (va_rf r :: t) = 1 + wsum t := by cases r <;> rfl
theorem wsum_long (x : Int64) (t : List Value) : wsum (.long x :: t) = 2 + wsum t := Eq.trans rfl rfl
/-- behind a call -/
def kont (K : XP) (Q : AO → AW → Prop) (pc : Nat) (L : AL) (t : List Value) (b : Nat × Nat) (kc ks : Nat) : AO → AW → Prop := fun o w1 => match o with
  | .inl v => K (pc + 3) L (v.toList ++ t) w1 (b.1 - kc, b.2 - ks)
  | .inr E => Q (.inr E) w1
theorem kont_some (t : List Value) (kc ks : Nat) (v : Value) (w1 : AW) : kont K Q pc L t b kc ks (.inl (some v)) w1 = K (pc + 3) L (v :: t) w1 (b.1 - kc, b.2 - ks) := Eq.trans rfl rfl
theorem kont_none (t : List Value) (kc ks : Nat) (w1 : AW) : kont K Q pc L t b kc ks (.inl none) w1 = K (pc + 3) L t w1 (b.1 - kc, b.2 - ks) := Eq.trans rfl rfl
theorem kont_inr (t : List Value) (kc ks : Nat) (C : String) (w1 : AW) : kont K Q pc L t b kc ks (.inr C) w1 = Q (.inr C) w1 := Eq.trans rfl rfl
theorem wp_go {cut : List Nat} {X : XP} {n : Nat} (h : ¬ pc ∈ cut) : wp S M Q cut X (n + 1) pc L st w b = wp1 S M Q (wp S M Q cut X n) pc L st w b := if_neg h
theorem wp_cut {cut : List Nat} {X : XP} {n : Nat} (h : pc ∈ cut) : wp S M Q cut X (n + 1) pc L st w b = X pc L st w b := if_pos h
theorem wp1_is {i : Instr} {len : Nat} (hP : M.1 pc = some (i, len)) (hl : len < 10000 := by decide) : wp1 S M Q K pc L st w b = wpS S M Q i len K pc L st w b := by unfold wp1; rw [hP]; exact if_pos hl
theorem wpE_is {i : Instr} {len : Nat} (hP : M.1 pc = some (i, len)) (hl : ¬ len < 10000 := by decide) : wp1 S M Q K pc L st w b = wpE S M Q i (len - 10000) K pc L st w b := by unfold wp1; rw [hP]; exact if_neg hl
theorem w1_aconst_null  (hP : M.1 pc = some (.aconst_null, 1)) : wp1 S M Q K pc L (st) w b = (K (pc + 1) L (.null :: st) w b) := by
  rw [wp1_is hP]
  simp [wpS]
theorem w1_iconst {n : Int} {v : Int32} (hv : Int32.ofInt n = v) (hP : M.1 pc = some (.iconst n, 1)) : wp1 S M Q K pc L (st) w b = (K (pc + 1) L (.int v :: st) w b) := by
  rw [wp1_is hP]
  subst hv; simp [wpS]
theorem w1_bipush {n : Int} {v : Int32} (hv : (Int8.ofInt n).toInt32 = v) (hP : M.1 pc = some (.bipush n, 2)) : wp1 S M Q K pc L (st) w b = (K (pc + 2) L (.int v :: st) w b) := by
  rw [wp1_is hP]
  subst hv; simp [wpS]
theorem w1_sipush {n : Int} {v : Int32} (hv : (Int16.ofInt n).toInt32 = v) (hP : M.1 pc = some (.sipush n, 3)) : wp1 S M Q K pc L (st) w b = (K (pc + 3) L (.int v :: st) w b) := by
  rw [wp1_is hP]
  subst hv; simp [wpS]
theorem w1_lconst {n : Fin 2} {v : Int64} (hv : Int64.ofNat (n : Nat) = v) (hP : M.1 pc = some (.lconst n, 1)) : wp1 S M Q K pc L (st) w b = (K (pc + 1) L (.long v :: st) w b) := by
  rw [wp1_is hP]
  subst hv; simp [wpS]
theorem w1_iload {n : Nat} (hP : M.1 pc = some (.iload n, 2)) : wp1 S M Q K pc L (st) w b = (∃ x, L n = some (.int x) ∧ K (pc + 2) L (.int x :: st) w b) := by
  rw [wp1_is hP]
  simp [wpS]
theorem w1_iload_n {n : Fin 4} {i : Nat} (hi : (n : Nat) = i) (hP : M.1 pc = some (.iload_n n, 1)) : wp1 S M Q K pc L (st) w b = (∃ x, L i = some (.int x) ∧ K (pc + 1) L (.int x :: st) w b) := by
  rw [wp1_is hP]
  subst hi; simp [wpS]
theorem w1_lload {n : Nat} (hP : M.1 pc = some (.lload n, 2)) : wp1 S M Q K pc L (st) w b = (∃ x, L n = some (.long x) ∧ K (pc + 2) L (.long x :: st) w b) := by
  rw [wp1_is hP]
  simp [wpS]
theorem w1_lload_n {n : Fin 4} {i : Nat} (hi : (n : Nat) = i) (hP : M.1 pc = some (.lload_n n, 1)) : wp1 S M Q K pc L (st) w b = (∃ x, L i = some (.long x) ∧ K (pc + 1) L (.long x :: st) w b) := by
  rw [wp1_is hP]
  subst hi; simp [wpS]
theorem w1_aload {n : Nat} (hP : M.1 pc = some (.aload n, 2)) : wp1 S M Q K pc L (st) w b = (∃ v, L n = some v ∧ isRfV v ∧ K (pc + 2) L (v :: st) w b) := by
  rw [wp1_is hP]
  exact propext ⟨fun ⟨_, r, h1, h2⟩ => ⟨va_rf r, h1, by rw [isRfV_rf]; trivial, h2⟩, fun ⟨v, h1, h2, h3⟩ => by
    obtain ⟨r, rfl⟩ := rfV_iff.mp h2
    exact ⟨rfl, r, h1, h3⟩⟩
theorem w1_aload_n {n : Fin 4} {i : Nat} (hi : (n : Nat) = i) (hP : M.1 pc = some (.aload_n n, 1)) : wp1 S M Q K pc L (st) w b = (∃ v, L i = some v ∧ isRfV v ∧ K (pc + 1) L (v :: st) w b) := by
  rw [wp1_is hP]
  subst hi
  exact propext ⟨fun ⟨_, r, h1, h2⟩ => ⟨va_rf r, h1, by rw [isRfV_rf]; trivial, h2⟩, fun ⟨v, h1, h2, h3⟩ => by
    obtain ⟨r, rfl⟩ := rfV_iff.mp h2
    exact ⟨rfl, r, h1, h3⟩⟩
theorem w1_istore {n : Nat} {x : Int32} (hn : n < S.2.1) (hP : M.1 pc = some (.istore n, 2)) : wp1 S M Q K pc L (.int x :: st) w b = (K (pc + 2) (ls1 L n (.int x)) st w b) := by
  rw [wp1_is hP]
  simp [wpS, hn]
theorem w1_istore_n {n : Fin 4} {i : Nat} {x : Int32} (hi : (n : Nat) = i) (hn : i < S.2.1) (hP : M.1 pc = some (.istore_n n, 1)) : wp1 S M Q K pc L (.int x :: st) w b = (K (pc + 1) (ls1 L i (.int x)) st w b) := by
  rw [wp1_is hP]
  subst hi; simp [wpS, hn]
theorem w1_lstore {n : Nat} {x : Int64} (hn : n + 1 < S.2.1) (hP : M.1 pc = some (.lstore n, 2)) : wp1 S M Q K pc L (.long x :: st) w b = (K (pc + 2) (ls2 L n (.long x)) st w b) := by
  rw [wp1_is hP]
  simp [wpS, hn]
theorem w1_lstore_n {n : Fin 4} {i : Nat} {x : Int64} (hi : (n : Nat) = i) (hn : i + 1 < S.2.1) (hP : M.1 pc = some (.lstore_n n, 1)) : wp1 S M Q K pc L (.long x :: st) w b = (K (pc + 1) (ls2 L i (.long x)) st w b) := by
  rw [wp1_is hP]
  subst hi; simp [wpS, hn]
theorem w1_astore {n : Nat} {v : Value} (hn : n < S.2.1) (hP : M.1 pc = some (.astore n, 2)) : wp1 S M Q K pc L (v :: st) w b = (isRfV v ∧ K (pc + 2) (ls1 L n v) st w b) := by
  rw [wp1_is hP]
  exact propext ⟨fun ⟨_, r, t, h1, _, h2⟩ => by
    rw [List.cons.injEq] at h1
    obtain ⟨rfl, rfl⟩ := h1
    exact ⟨by rw [isRfV_rf]; trivial, h2⟩, fun ⟨h1, h2⟩ => by
    obtain ⟨r, rfl⟩ := rfV_iff.mp h1
    exact ⟨rfl, r, st, rfl, hn, h2⟩⟩
theorem w1_astore_n {n : Fin 4} {i : Nat} {v : Value} (hi : (n : Nat) = i) (hn : i < S.2.1) (hP : M.1 pc = some (.astore_n n, 1)) : wp1 S M Q K pc L (v :: st) w b = (isRfV v ∧ K (pc + 1) (ls1 L i v) st w b) := by
  rw [wp1_is hP]
  subst hi
  exact propext ⟨fun ⟨_, r, t, h1, _, h2⟩ => by
    rw [List.cons.injEq] at h1
    obtain ⟨rfl, rfl⟩ := h1
    exact ⟨by rw [isRfV_rf]; trivial, h2⟩, fun ⟨h1, h2⟩ => by
    obtain ⟨r, rfl⟩ := rfV_iff.mp h1
    exact ⟨rfl, r, st, rfl, hn, h2⟩⟩
theorem w1_iinc {n : Nat} {d : Int} {v : Int32} (hv : Int32.ofInt d = v) (hn : n < S.2.1) (hP : M.1 pc = some (.iinc n d, 3)) : wp1 S M Q K pc L (st) w b = (∃ x, L n = some (.int x) ∧ K (pc + 3) (ls1 L n (.int (x + v))) st w b) := by
  rw [wp1_is hP]
  subst hv; simp [wpS, hn]
theorem w1_iadd {x y : Int32} (hP : M.1 pc = some (.iadd, 1)) : wp1 S M Q K pc L (.int y :: .int x :: st) w b = (K (pc + 1) L (.int (x + y) :: st) w b) := by
  rw [wp1_is hP]
  exact propext ⟨fun ⟨_, x', y', t', h1, a0⟩ => by cases h1; exact a0, fun a0 => ⟨rfl, x, y, st, rfl, a0⟩⟩
theorem w1_isub {x y : Int32} (hP : M.1 pc = some (.isub, 1)) : wp1 S M Q K pc L (.int y :: .int x :: st) w b = (K (pc + 1) L (.int (x - y) :: st) w b) := by
  rw [wp1_is hP]
  exact propext ⟨fun ⟨_, x', y', t', h1, a0⟩ => by cases h1; exact a0, fun a0 => ⟨rfl, x, y, st, rfl, a0⟩⟩
theorem w1_imul {x y : Int32} (hP : M.1 pc = some (.imul, 1)) : wp1 S M Q K pc L (.int y :: .int x :: st) w b = (K (pc + 1) L (.int (x * y) :: st) w b) := by
  rw [wp1_is hP]
  exact propext ⟨fun ⟨_, x', y', t', h1, a0⟩ => by cases h1; exact a0, fun a0 => ⟨rfl, x, y, st, rfl, a0⟩⟩
theorem w1_iand {x y : Int32} (hP : M.1 pc = some (.iand, 1)) : wp1 S M Q K pc L (.int y :: .int x :: st) w b = (K (pc + 1) L (.int (x &&& y) :: st) w b) := by
  rw [wp1_is hP]
  exact propext ⟨fun ⟨_, x', y', t', h1, a0⟩ => by cases h1; exact a0, fun a0 => ⟨rfl, x, y, st, rfl, a0⟩⟩
theorem w1_ior {x y : Int32} (hP : M.1 pc = some (.ior, 1)) : wp1 S M Q K pc L (.int y :: .int x :: st) w b = (K (pc + 1) L (.int (x ||| y) :: st) w b) := by
  rw [wp1_is hP]
  exact propext ⟨fun ⟨_, x', y', t', h1, a0⟩ => by cases h1; exact a0, fun a0 => ⟨rfl, x, y, st, rfl, a0⟩⟩
theorem w1_ixor {x y : Int32} (hP : M.1 pc = some (.ixor, 1)) : wp1 S M Q K pc L (.int y :: .int x :: st) w b = (K (pc + 1) L (.int (x ^^^ y) :: st) w b) := by
  rw [wp1_is hP]
  exact propext ⟨fun ⟨_, x', y', t', h1, a0⟩ => by cases h1; exact a0, fun a0 => ⟨rfl, x, y, st, rfl, a0⟩⟩
theorem w1_ishl {x y : Int32} (hP : M.1 pc = some (.ishl, 1)) : wp1 S M Q K pc L (.int y :: .int x :: st) w b = (K (pc + 1) L (.int (x <<< (y &&& 31)) :: st) w b) := by
  rw [wp1_is hP]
  exact propext ⟨fun ⟨_, x', y', t', h1, a0⟩ => by cases h1; exact a0, fun a0 => ⟨rfl, x, y, st, rfl, a0⟩⟩
theorem w1_ishr {x y : Int32} (hP : M.1 pc = some (.ishr, 1)) : wp1 S M Q K pc L (.int y :: .int x :: st) w b = (K (pc + 1) L (.int (x >>> (y &&& 31)) :: st) w b) := by
  rw [wp1_is hP]
  exact propext ⟨fun ⟨_, x', y', t', h1, a0⟩ => by cases h1; exact a0, fun a0 => ⟨rfl, x, y, st, rfl, a0⟩⟩
theorem w1_iushr {x y : Int32} (hP : M.1 pc = some (.iushr, 1)) : wp1 S M Q K pc L (.int y :: .int x :: st) w b = (K (pc + 1) L (.int ((x.toUInt32 >>> (y.toUInt32 &&& Int32.toUInt32 31)).toInt32) :: st) w b) := by
  rw [wp1_is hP]
  exact propext ⟨fun ⟨_, x', y', t', h1, a0⟩ => by cases h1; exact a0, fun a0 => ⟨rfl, x, y, st, rfl, a0⟩⟩
theorem w1_idiv {x y : Int32} (hP : M.1 pc = some (.idiv, 1)) : wp1 S M Q K pc L (.int y :: .int x :: st) w b = (¬ y = 0 ∧ K (pc + 1) L (.int (x / y) :: st) w b) := by
  rw [wp1_is hP]
  exact propext ⟨fun ⟨_, x', y', t', h1, a0, a1⟩ => by cases h1; exact ⟨a0, a1⟩, fun ⟨a0, a1⟩ => ⟨rfl, x, y, st, rfl, a0, a1⟩⟩
theorem w1_irem {x y : Int32} (hP : M.1 pc = some (.irem, 1)) : wp1 S M Q K pc L (.int y :: .int x :: st) w b = (¬ y = 0 ∧ K (pc + 1) L (.int (x - x / y * y) :: st) w b) := by
  rw [wp1_is hP]
  exact propext ⟨fun ⟨_, x', y', t', h1, a0, a1⟩ => by cases h1; exact ⟨a0, a1⟩, fun ⟨a0, a1⟩ => ⟨rfl, x, y, st, rfl, a0, a1⟩⟩
theorem w1_ineg {x : Int32} (hP : M.1 pc = some (.ineg, 1)) : wp1 S M Q K pc L (.int x :: st) w b = (K (pc + 1) L (.int (-x) :: st) w b) := by
  rw [wp1_is hP]
  exact propext ⟨fun ⟨_, x', t', h1, a0⟩ => by cases h1; exact a0, fun a0 => ⟨rfl, x, st, rfl, a0⟩⟩
theorem w1_ladd {x y : Int64} (hP : M.1 pc = some (.ladd, 1)) : wp1 S M Q K pc L (.long y :: .long x :: st) w b = (K (pc + 1) L (.long (x + y) :: st) w b) := by
  rw [wp1_is hP]
  exact propext ⟨fun ⟨_, x', y', t', h1, a0⟩ => by cases h1; exact a0, fun a0 => ⟨rfl, x, y, st, rfl, a0⟩⟩
theorem w1_lsub {x y : Int64} (hP : M.1 pc = some (.lsub, 1)) : wp1 S M Q K pc L (.long y :: .long x :: st) w b = (K (pc + 1) L (.long (x - y) :: st) w b) := by
  rw [wp1_is hP]
  exact propext ⟨fun ⟨_, x', y', t', h1, a0⟩ => by cases h1; exact a0, fun a0 => ⟨rfl, x, y, st, rfl, a0⟩⟩
theorem w1_lor {x y : Int64} (hP : M.1 pc = some (.lor, 1)) : wp1 S M Q K pc L (.long y :: .long x :: st) w b = (K (pc + 1) L (.long (x ||| y) :: st) w b) := by
  rw [wp1_is hP]
  exact propext ⟨fun ⟨_, x', y', t', h1, a0⟩ => by cases h1; exact a0, fun a0 => ⟨rfl, x, y, st, rfl, a0⟩⟩
theorem w1_land {x y : Int64} (hP : M.1 pc = some (.land, 1)) : wp1 S M Q K pc L (.long y :: .long x :: st) w b = (K (pc + 1) L (.long (x &&& y) :: st) w b) := by
  rw [wp1_is hP]
  exact propext ⟨fun ⟨_, x', y', t', h1, a0⟩ => by cases h1; exact a0, fun a0 => ⟨rfl, x, y, st, rfl, a0⟩⟩
theorem w1_lneg {x : Int64} (hP : M.1 pc = some (.lneg, 1)) : wp1 S M Q K pc L (.long x :: st) w b = (K (pc + 1) L (.long (-x) :: st) w b) := by
  rw [wp1_is hP]
  exact propext ⟨fun ⟨_, x', t', h1, a0⟩ => by cases h1; exact a0, fun a0 => ⟨rfl, x, st, rfl, a0⟩⟩
theorem w1_lshl {x : Int64} {y : Int32} (hP : M.1 pc = some (.lshl, 1)) : wp1 S M Q K pc L (.int y :: .long x :: st) w b = (K (pc + 1) L (.long (x <<< (y.toInt64 &&& 63)) :: st) w b) := by
  rw [wp1_is hP]
  exact propext ⟨fun ⟨_, x', y', t', h1, a0⟩ => by cases h1; exact a0, fun a0 => ⟨rfl, x, y, st, rfl, a0⟩⟩
theorem w1_lshr {x : Int64} {y : Int32} (hP : M.1 pc = some (.lshr, 1)) : wp1 S M Q K pc L (.int y :: .long x :: st) w b = (K (pc + 1) L (.long (x >>> (y.toInt64 &&& 63)) :: st) w b) := by
  rw [wp1_is hP]
  exact propext ⟨fun ⟨_, x', y', t', h1, a0⟩ => by cases h1; exact a0, fun a0 => ⟨rfl, x, y, st, rfl, a0⟩⟩
theorem w1_lcmp {x y : Int64} (hP : M.1 pc = some (.lcmp, 1)) : wp1 S M Q K pc L (.long y :: .long x :: st) w b = (K (pc + 1) L (.int (lg_cmp x y) :: st) w b) := by
  rw [wp1_is hP]
  exact propext ⟨fun ⟨_, x', y', t', h1, a0⟩ => by cases h1; exact a0, fun a0 => ⟨rfl, x, y, st, rfl, a0⟩⟩
theorem w1_i2l {x : Int32} (hP : M.1 pc = some (.i2l, 1)) : wp1 S M Q K pc L (.int x :: st) w b = (K (pc + 1) L (.long x.toInt64 :: st) w b) := by
  rw [wp1_is hP]
  exact propext ⟨fun ⟨_, x', t', h1, a0⟩ => by cases h1; exact a0, fun a0 => ⟨rfl, x, st, rfl, a0⟩⟩
theorem w1_l2i {x : Int64} (hP : M.1 pc = some (.l2i, 1)) : wp1 S M Q K pc L (.long x :: st) w b = (K (pc + 1) L (.int x.toInt32 :: st) w b) := by
  rw [wp1_is hP]
  exact propext ⟨fun ⟨_, x', t', h1, a0⟩ => by cases h1; exact a0, fun a0 => ⟨rfl, x, st, rfl, a0⟩⟩
theorem w1_i2c {x : Int32} (hP : M.1 pc = some (.i2c, 1)) : wp1 S M Q K pc L (.int x :: st) w b = (K (pc + 1) L (.int ((x.toUInt32 % 65536).toInt32) :: st) w b) := by
  rw [wp1_is hP]
  exact propext ⟨fun ⟨_, x', t', h1, a0⟩ => by cases h1; exact a0, fun a0 => ⟨rfl, x, st, rfl, a0⟩⟩
theorem w1_i2b {x : Int32} (hP : M.1 pc = some (.i2b, 1)) : wp1 S M Q K pc L (.int x :: st) w b = (K (pc + 1) L (.int x.toInt8.toInt32 :: st) w b) := by
  rw [wp1_is hP]
  exact propext ⟨fun ⟨_, x', t', h1, a0⟩ => by cases h1; exact a0, fun a0 => ⟨rfl, x, st, rfl, a0⟩⟩
theorem w1_dup {v : Value} (hP : M.1 pc = some (.dup, 1)) : wp1 S M Q K pc L (v :: st) w b = (v.category = 1 ∧ K (pc + 1) L (v :: v :: st) w b) := by
  rw [wp1_is hP]
  exact propext ⟨fun ⟨_, v', t', h1, a0, a1⟩ => by cases h1; exact ⟨a0, a1⟩, fun ⟨a0, a1⟩ => ⟨rfl, v, st, rfl, a0, a1⟩⟩
theorem w1_pop {v : Value} (hP : M.1 pc = some (.pop, 1)) : wp1 S M Q K pc L (v :: st) w b = (v.category = 1 ∧ K (pc + 1) L st w b) := by
  rw [wp1_is hP]
  exact propext ⟨fun ⟨_, v', t', h1, a0, a1⟩ => by cases h1; exact ⟨a0, a1⟩, fun ⟨a0, a1⟩ => ⟨rfl, v, st, rfl, a0, a1⟩⟩
theorem w1_dup2 {u v : Value} (hP : M.1 pc = some (.dup2, 1)) : wp1 S M Q K pc L (u :: v :: st) w b = (u.category = 1 ∧ v.category = 1 ∧ K (pc + 1) L (u :: v :: u :: v :: st) w b) := by
  rw [wp1_is hP]
  exact propext ⟨fun ⟨_, u', v', t', h1, a0, a1, a2⟩ => by cases h1; exact ⟨a0, a1, a2⟩, fun ⟨a0, a1, a2⟩ => ⟨rfl, u, v, st, rfl, a0, a1, a2⟩⟩
theorem w1_dup_x1 {u v : Value} (hP : M.1 pc = some (.dup_x1, 1)) : wp1 S M Q K pc L (u :: v :: st) w b = (u.category = 1 ∧ v.category = 1 ∧ K (pc + 1) L (u :: v :: u :: st) w b) := by
  rw [wp1_is hP]
  exact propext ⟨fun ⟨_, u', v', t', h1, a0, a1, a2⟩ => by cases h1; exact ⟨a0, a1, a2⟩, fun ⟨a0, a1, a2⟩ => ⟨rfl, u, v, st, rfl, a0, a1, a2⟩⟩
theorem w1_goto {d : Int} {g : Nat} (hg : (pc : Int) + d = (g : Int)) (hP : M.1 pc = some (.goto d, 3)) : wp1 S M Q K pc L (st) w b = (K g L st w b) := by
  rw [wp1_is hP]
  exact propext ⟨fun ⟨_, g', h1, h2⟩ => by obtain rfl : g' = g := (by omega); exact h2, fun h => ⟨rfl, g, hg, h⟩⟩
theorem w1_icmp_eq {d : Int} {g : Nat} {x y : Int32} (hg : (pc : Int) + d = (g : Int)) (hP : M.1 pc = some (.if_icmp .eq d, 3)) : wp1 S M Q K pc L (.int y :: .int x :: st) w b = ((x = y → K g L st w b) ∧ (¬ x = y → K (pc + 3) L st w b)) := by
  rw [wp1_is hP]
  exact propext ⟨fun ⟨_, g', x', y', t', h1, h2, h3, h4⟩ => by cases h2; obtain rfl : g' = g := (by omega); exact ⟨h3, h4⟩, fun h => ⟨rfl, g, x, y, st, hg, rfl, h.1, h.2⟩⟩
theorem w1_icmp_ne {d : Int} {g : Nat} {x y : Int32} (hg : (pc : Int) + d = (g : Int)) (hP : M.1 pc = some (.if_icmp .ne d, 3)) : wp1 S M Q K pc L (.int y :: .int x :: st) w b = ((¬ x = y → K g L st w b) ∧ (x = y → K (pc + 3) L st w b)) := by
  rw [wp1_is hP]
  exact propext ⟨fun ⟨_, g', x', y', t', h1, h2, h3, h4⟩ => by cases h2; obtain rfl : g' = g := (by omega); exact ⟨h3, h4⟩, fun h => ⟨rfl, g, x, y, st, hg, rfl, h.1, h.2⟩⟩
theorem w1_icmp_lt {d : Int} {g : Nat} {x y : Int32} (hg : (pc : Int) + d = (g : Int)) (hP : M.1 pc = some (.if_icmp .lt d, 3)) : wp1 S M Q K pc L (.int y :: .int x :: st) w b = ((x < y → K g L st w b) ∧ (¬ x < y → K (pc + 3) L st w b)) := by
  rw [wp1_is hP]
  exact propext ⟨fun ⟨_, g', x', y', t', h1, h2, h3, h4⟩ => by cases h2; obtain rfl : g' = g := (by omega); exact ⟨h3, h4⟩, fun h => ⟨rfl, g, x, y, st, hg, rfl, h.1, h.2⟩⟩
theorem w1_icmp_ge {d : Int} {g : Nat} {x y : Int32} (hg : (pc : Int) + d = (g : Int)) (hP : M.1 pc = some (.if_icmp .ge d, 3)) : wp1 S M Q K pc L (.int y :: .int x :: st) w b = ((y ≤ x → K g L st w b) ∧ (¬ y ≤ x → K (pc + 3) L st w b)) := by
  rw [wp1_is hP]
  exact propext ⟨fun ⟨_, g', x', y', t', h1, h2, h3, h4⟩ => by cases h2; obtain rfl : g' = g := (by omega); exact ⟨h3, h4⟩, fun h => ⟨rfl, g, x, y, st, hg, rfl, h.1, h.2⟩⟩
theorem w1_icmp_gt {d : Int} {g : Nat} {x y : Int32} (hg : (pc : Int) + d = (g : Int)) (hP : M.1 pc = some (.if_icmp .gt d, 3)) : wp1 S M Q K pc L (.int y :: .int x :: st) w b = ((y < x → K g L st w b) ∧ (¬ y < x → K (pc + 3) L st w b)) := by
  rw [wp1_is hP]
  exact propext ⟨fun ⟨_, g', x', y', t', h1, h2, h3, h4⟩ => by cases h2; obtain rfl : g' = g := (by omega); exact ⟨h3, h4⟩, fun h => ⟨rfl, g, x, y, st, hg, rfl, h.1, h.2⟩⟩
theorem w1_icmp_le {d : Int} {g : Nat} {x y : Int32} (hg : (pc : Int) + d = (g : Int)) (hP : M.1 pc = some (.if_icmp .le d, 3)) : wp1 S M Q K pc L (.int y :: .int x :: st) w b = ((x ≤ y → K g L st w b) ∧ (¬ x ≤ y → K (pc + 3) L st w b)) := by
  rw [wp1_is hP]
  exact propext ⟨fun ⟨_, g', x', y', t', h1, h2, h3, h4⟩ => by cases h2; obtain rfl : g' = g := (by omega); exact ⟨h3, h4⟩, fun h => ⟨rfl, g, x, y, st, hg, rfl, h.1, h.2⟩⟩
theorem w1_if_eq {d : Int} {g : Nat} {x : Int32} (hg : (pc : Int) + d = (g : Int)) (hP : M.1 pc = some (.ifCond .eq d, 3)) : wp1 S M Q K pc L (.int x :: st) w b = ((x = 0 → K g L st w b) ∧ (¬ x = 0 → K (pc + 3) L st w b)) := by
  rw [wp1_is hP]
  exact propext ⟨fun ⟨_, g', x', t', h1, h2, h3, h4⟩ => by cases h2; obtain rfl : g' = g := (by omega); exact ⟨h3, h4⟩, fun h => ⟨rfl, g, x, st, hg, rfl, h.1, h.2⟩⟩
theorem w1_if_ne {d : Int} {g : Nat} {x : Int32} (hg : (pc : Int) + d = (g : Int)) (hP : M.1 pc = some (.ifCond .ne d, 3)) : wp1 S M Q K pc L (.int x :: st) w b = ((¬ x = 0 → K g L st w b) ∧ (x = 0 → K (pc + 3) L st w b)) := by
  rw [wp1_is hP]
  exact propext ⟨fun ⟨_, g', x', t', h1, h2, h3, h4⟩ => by cases h2; obtain rfl : g' = g := (by omega); exact ⟨h3, h4⟩, fun h => ⟨rfl, g, x, st, hg, rfl, h.1, h.2⟩⟩
theorem w1_if_lt {d : Int} {g : Nat} {x : Int32} (hg : (pc : Int) + d = (g : Int)) (hP : M.1 pc = some (.ifCond .lt d, 3)) : wp1 S M Q K pc L (.int x :: st) w b = ((x < 0 → K g L st w b) ∧ (¬ x < 0 → K (pc + 3) L st w b)) := by
  rw [wp1_is hP]
  exact propext ⟨fun ⟨_, g', x', t', h1, h2, h3, h4⟩ => by cases h2; obtain rfl : g' = g := (by omega); exact ⟨h3, h4⟩, fun h => ⟨rfl, g, x, st, hg, rfl, h.1, h.2⟩⟩
theorem w1_if_ge {d : Int} {g : Nat} {x : Int32} (hg : (pc : Int) + d = (g : Int)) (hP : M.1 pc = some (.ifCond .ge d, 3)) : wp1 S M Q K pc L (.int x :: st) w b = ((0 ≤ x → K g L st w b) ∧ (¬ 0 ≤ x → K (pc + 3) L st w b)) := by
  rw [wp1_is hP]
  exact propext ⟨fun ⟨_, g', x', t', h1, h2, h3, h4⟩ => by cases h2; obtain rfl : g' = g := (by omega); exact ⟨h3, h4⟩, fun h => ⟨rfl, g, x, st, hg, rfl, h.1, h.2⟩⟩
theorem w1_if_gt {d : Int} {g : Nat} {x : Int32} (hg : (pc : Int) + d = (g : Int)) (hP : M.1 pc = some (.ifCond .gt d, 3)) : wp1 S M Q K pc L (.int x :: st) w b = ((0 < x → K g L st w b) ∧ (¬ 0 < x → K (pc + 3) L st w b)) := by
  rw [wp1_is hP]
  exact propext ⟨fun ⟨_, g', x', t', h1, h2, h3, h4⟩ => by cases h2; obtain rfl : g' = g := (by omega); exact ⟨h3, h4⟩, fun h => ⟨rfl, g, x, st, hg, rfl, h.1, h.2⟩⟩
theorem w1_if_le {d : Int} {g : Nat} {x : Int32} (hg : (pc : Int) + d = (g : Int)) (hP : M.1 pc = some (.ifCond .le d, 3)) : wp1 S M Q K pc L (.int x :: st) w b = ((x ≤ 0 → K g L st w b) ∧ (¬ x ≤ 0 → K (pc + 3) L st w b)) := by
  rw [wp1_is hP]
  exact propext ⟨fun ⟨_, g', x', t', h1, h2, h3, h4⟩ => by cases h2; obtain rfl : g' = g := (by omega); exact ⟨h3, h4⟩, fun h => ⟨rfl, g, x, st, hg, rfl, h.1, h.2⟩⟩
theorem va_rf_inj {x y : Option Nat} (h : va_rf x = va_rf y) : x = y := by
  cases x <;> cases y <;> first | rfl | (cases h; done) | (cases h; rfl)
theorem w1_acmp_eq {d : Int} {g : Nat} {x y : Option Nat} (hg : (pc : Int) + d = (g : Int)) (hP : M.1 pc = some (.if_acmp .eq d, 3)) : wp1 S M Q K pc L (va_rf y :: va_rf x :: st) w b = (acOK w x y ∧ (x = y → K g L st w b) ∧ (¬ x = y → K (pc + 3) L st w b)) := by
  rw [wp1_is hP]
  exact propext ⟨fun ⟨_, g', x', y', t', h1, h2, h0, h3, h4⟩ => by
    rw [List.cons.injEq, List.cons.injEq] at h2
    obtain ⟨a1, a2, rfl⟩ := h2
    have e1 := va_rf_inj a1; have e2 := va_rf_inj a2; subst e1; subst e2
    obtain rfl : g' = g := (by omega)
    exact ⟨h0, h3, h4⟩, fun h => ⟨rfl, g, x, y, st, hg, rfl, h.1, h.2.1, h.2.2⟩⟩
theorem w1_acmp_ne {d : Int} {g : Nat} {x y : Option Nat} (hg : (pc : Int) + d = (g : Int)) (hP : M.1 pc = some (.if_acmp .ne d, 3)) : wp1 S M Q K pc L (va_rf y :: va_rf x :: st) w b = (acOK w x y ∧ (¬ x = y → K g L st w b) ∧ (x = y → K (pc + 3) L st w b)) := by
  rw [wp1_is hP]
  exact propext ⟨fun ⟨_, g', x', y', t', h1, h2, h0, h3, h4⟩ => by
    rw [List.cons.injEq, List.cons.injEq] at h2
    obtain ⟨a1, a2, rfl⟩ := h2
    have e1 := va_rf_inj a1; have e2 := va_rf_inj a2; subst e1; subst e2
    obtain rfl : g' = g := (by omega)
    exact ⟨h0, h3, h4⟩, fun h => ⟨rfl, g, x, y, st, hg, rfl, h.1, h.2.1, h.2.2⟩⟩
theorem w1_ifnull {d : Int} {g : Nat} {x : Option Nat} (hg : (pc : Int) + d = (g : Int)) (hP : M.1 pc = some (.ifnull d, 3)) : wp1 S M Q K pc L (va_rf x :: st) w b = ((x = none → K g L st w b) ∧ (¬ x = none → K (pc + 3) L st w b)) := by
  rw [wp1_is hP]
  exact propext ⟨fun ⟨_, g', x', t', h1, h2, h3, h4⟩ => by
    rw [List.cons.injEq] at h2
    obtain ⟨a1, rfl⟩ := h2
    have e1 := va_rf_inj a1; subst e1
    obtain rfl : g' = g := (by omega)
    exact ⟨h3, h4⟩, fun h => ⟨rfl, g, x, st, hg, rfl, h.1, h.2⟩⟩
theorem w1_ifnonnull {d : Int} {g : Nat} {x : Option Nat} (hg : (pc : Int) + d = (g : Int)) (hP : M.1 pc = some (.ifnonnull d, 3)) : wp1 S M Q K pc L (va_rf x :: st) w b = ((¬ x = none → K g L st w b) ∧ (x = none → K (pc + 3) L st w b)) := by
  rw [wp1_is hP]
  exact propext ⟨fun ⟨_, g', x', t', h1, h2, h3, h4⟩ => by
    rw [List.cons.injEq] at h2
    obtain ⟨a1, rfl⟩ := h2
    have e1 := va_rf_inj a1; subst e1
    obtain rfl : g' = g := (by omega)
    exact ⟨h3, h4⟩, fun h => ⟨rfl, g, x, st, hg, rfl, h.1, h.2⟩⟩
theorem w1_ldc {n : Nat} {v : Int32} (hC : M.2.2.2.1 n = some v) (hP : M.1 pc = some (.ldc n, 2)) : wp1 S M Q K pc L (st) w b = (K (pc + 2) L (.int v :: st) w b) := by
  rw [wp1_is hP]
  simp [wpS, hC]
theorem w1_ldc_w {n : Nat} {v : Int32} (hC : M.2.2.2.1 n = some v) (hP : M.1 pc = some (.ldc_w n, 3)) : wp1 S M Q K pc L (st) w b = (K (pc + 3) L (.int v :: st) w b) := by
  rw [wp1_is hP]
  simp [wpS, hC]
theorem w1_ldc2_w {n : Nat} {v : Int64} (hC : M.2.2.2.2.1 n = some v) (hP : M.1 pc = some (.ldc2_w n, 3)) : wp1 S M Q K pc L (st) w b = (K (pc + 3) L (.long v :: st) w b) := by
  rw [wp1_is hP]
  simp [wpS, hC]
theorem w1_getI {n c k key i : Nat} (hF : M.2.1 n = some (c, k)) (hr : isRf (vty c k) = false) (hk : 64 * c + k = key) (h13 : c < 13) (hP : M.1 pc = some (.getfield n, 3)) : wp1 S M Q K pc L (.ref i :: st) w b = (wT w i = c + 1 ∧ K (pc + 3) L (.int (wI w key i) :: st) w b) := by
  rw [wp1_is hP]
  subst hk; simp [wpS, hF, gv, hr, h13]
theorem w1_getR {n c k key i : Nat} (hF : M.2.1 n = some (c, k)) (hr : isRf (vty c k) = true) (hk : 64 * c + k = key) (h13 : c < 13) (hP : M.1 pc = some (.getfield n, 3)) : wp1 S M Q K pc L (.ref i :: st) w b = (wT w i = c + 1 ∧ K (pc + 3) L (va_rf (wR w key i) :: st) w b) := by
  rw [wp1_is hP]
  subst hk; simp [wpS, hF, gv, hr, h13]
theorem w1_putI {n c k key i : Nat} {x : Int32} (hF : M.2.1 n = some (c, k)) (hr : isRf (vty c k) = false) (hk : 64 * c + k = key) (hfin : (vTb c k).2.2.2 = false ∨ (S.2.2.2 = true ∧ (vTb c k).1 = S.1)) (h13 : c < 13) (hP : M.1 pc = some (.putfield n, 3)) : wp1 S M Q K pc L (.int x :: .ref i :: st) w b = (wT w i = c + 1 ∧ K (pc + 3) L st (sI w key i x) b) := by
  rw [wp1_is hP]
  subst hk
  exact propext ⟨fun ⟨_, c', k', i', v, t, h1, _, h2, h3, _, h5⟩ => by
    rw [hF] at h1; cases h1; cases h2
    rcases h5 with ⟨a1, -⟩ | ⟨-, x', a2, a3⟩
    · rw [hr] at a1; cases a1
    · cases a2; exact ⟨h3, a3⟩, fun h => ⟨rfl, c, k, i, .int x, st, hF, h13, rfl, h.1, hfin, Or.inr ⟨hr, x, rfl, h.2⟩⟩⟩
theorem w1_putR {n c k key i : Nat} {r : Option Nat} (hF : M.2.1 n = some (c, k)) (hr : isRf (vty c k) = true) (hk : 64 * c + k = key) (hfin : (vTb c k).2.2.2 = false ∨ (S.2.2.2 = true ∧ (vTb c k).1 = S.1)) (h13 : c < 13) (hP : M.1 pc = some (.putfield n, 3)) : wp1 S M Q K pc L (va_rf r :: .ref i :: st) w b = (wT w i = c + 1 ∧ K (pc + 3) L st (sR w key i r) b) := by
  rw [wp1_is hP]
  subst hk
  exact propext ⟨fun ⟨_, c', k', i', v, t, h1, _, h2, h3, _, h5⟩ => by
    rw [hF] at h1; cases h1
    rw [List.cons.injEq, List.cons.injEq] at h2
    obtain ⟨rfl, a0, rfl⟩ := h2
    cases a0
    rcases h5 with ⟨-, r', a2, a3⟩ | ⟨a1, -⟩
    · have e1 := va_rf_inj a2; subst e1; exact ⟨h3, a3⟩
    · rw [hr] at a1; exact Bool.noConfusion a1, fun h => ⟨rfl, c, k, i, va_rf r, st, hF, h13, rfl, h.1, hfin, Or.inl ⟨hr, r, rfl, h.2⟩⟩⟩
theorem w1_arraylength {i : Nat} (hP : M.1 pc = some (.arraylength, 1)) : wp1 S M Q K pc L (.ref i :: st) w b = ((wT w i = 20 ∨ wT w i = 21 ∨ wT w i = 22) ∧ K (pc + 1) L (.int (Int32.ofNat (wN w i)) :: st) w b) := by
  rw [wp1_is hP]
  exact propext ⟨fun ⟨_, i', t', h1, a0, a1⟩ => by cases h1; exact ⟨a0, a1⟩, fun ⟨a0, a1⟩ => ⟨rfl, i, st, rfl, a0, a1⟩⟩
theorem w1_iaload {i : Nat} {x : Int32} (hP : M.1 pc = some (.iaload, 1)) : wp1 S M Q K pc L (.int x :: .ref i :: st) w b = (wT w i = 20 ∧ vp_in x (wN w i) ∧ K (pc + 1) L (.int (wA w i x.toNatClampNeg) :: st) w b) := by
  rw [wp1_is hP]
  exact propext ⟨fun ⟨_, x', i', t', h1, a0, a1, a2⟩ => by cases h1; exact ⟨a0, a1, a2⟩, fun ⟨a0, a1, a2⟩ => ⟨rfl, x, i, st, rfl, a0, a1, a2⟩⟩
theorem w1_baload {i : Nat} {x : Int32} (hP : M.1 pc = some (.baload, 1)) : wp1 S M Q K pc L (.int x :: .ref i :: st) w b = (wT w i = 21 ∧ vp_in x (wN w i) ∧ K (pc + 1) L (.int (wA w i x.toNatClampNeg) :: st) w b) := by
  rw [wp1_is hP]
  exact propext ⟨fun ⟨_, x', i', t', h1, a0, a1, a2⟩ => by cases h1; exact ⟨a0, a1, a2⟩, fun ⟨a0, a1, a2⟩ => ⟨rfl, x, i, st, rfl, a0, a1, a2⟩⟩
theorem w1_laload {i : Nat} {x : Int32} (hP : M.1 pc = some (.laload, 1)) : wp1 S M Q K pc L (.int x :: .ref i :: st) w b = (wT w i = 22 ∧ vp_in x (wN w i) ∧ K (pc + 1) L (.long (wJ w i x.toNatClampNeg) :: st) w b) := by
  rw [wp1_is hP]
  exact propext ⟨fun ⟨_, x', i', t', h1, a0, a1, a2⟩ => by cases h1; exact ⟨a0, a1, a2⟩, fun ⟨a0, a1, a2⟩ => ⟨rfl, x, i, st, rfl, a0, a1, a2⟩⟩
theorem w1_iastore {i : Nat} {x : Int32} {v : Int32} (hP : M.1 pc = some (.iastore, 1)) : wp1 S M Q K pc L (.int v :: .int x :: .ref i :: st) w b = (wT w i = 20 ∧ vp_in x (wN w i) ∧ K (pc + 1) L st (sA w i x.toNatClampNeg v) b) := by
  rw [wp1_is hP]
  exact propext ⟨fun ⟨_, v', x', i', t', h1, a0, a1, a2⟩ => by cases h1; exact ⟨a0, a1, a2⟩, fun ⟨a0, a1, a2⟩ => ⟨rfl, v, x, i, st, rfl, a0, a1, a2⟩⟩
theorem w1_bastore {i : Nat} {x : Int32} {v : Int32} (hP : M.1 pc = some (.bastore, 1)) : wp1 S M Q K pc L (.int v :: .int x :: .ref i :: st) w b = (wT w i = 21 ∧ vp_in x (wN w i) ∧ K (pc + 1) L st (sA w i x.toNatClampNeg (vp_nar .byte v)) b) := by
  rw [wp1_is hP]
  exact propext ⟨fun ⟨_, v', x', i', t', h1, a0, a1, a2⟩ => by cases h1; exact ⟨a0, a1, a2⟩, fun ⟨a0, a1, a2⟩ => ⟨rfl, v, x, i, st, rfl, a0, a1, a2⟩⟩
theorem w1_lastore {i : Nat} {x : Int32} {v : Int64} (hP : M.1 pc = some (.lastore, 1)) : wp1 S M Q K pc L (.long v :: .int x :: .ref i :: st) w b = (wT w i = 22 ∧ vp_in x (wN w i) ∧ K (pc + 1) L st (sJ w i x.toNatClampNeg v) b) := by
  rw [wp1_is hP]
  exact propext ⟨fun ⟨_, v', x', i', t', h1, a0, a1, a2⟩ => by cases h1; exact ⟨a0, a1, a2⟩, fun ⟨a0, a1, a2⟩ => ⟨rfl, v, x, i, st, rfl, a0, a1, a2⟩⟩
theorem w1_newarray {a : ArrayType} {n : Int32} {N t : Nat} (ha : a = .int ∨ a = .byte ∨ a = .long) (ht : mat a = t) (hn : ¬ n < 0) (hN : n.toNatClampNeg = N) (h8 : N * 8 ≤ 536870912) (hP : M.1 pc = some (.newarray a, 2)) : wp1 S M Q K pc L (.int n :: st) w b = (1 ≤ b.1 ∧ N ≤ b.2 ∧ ∃ X, wT w X = 0 ∧ K (pc + 2) L (.ref X :: st) (nA w X t N) (b.1 - 1, b.2 - N)) := by
  rw [wp1_is hP]
  subst hN; subst ht
  exact propext ⟨fun ⟨_, n', t', h1, _, _, _, h5, h6, h7⟩ => by cases h1; exact ⟨h5, h6, h7⟩, fun h => ⟨rfl, n, st, rfl, ha, hn, h8, h.1, h.2.1, h.2.2⟩⟩
theorem w1_new {n c N t : Nat} (hC : M.2.2.2.2.2 n = some c) (hN : vnn c = N) (ht : c + 1 = t) (h13 : c < 13) (hP : M.1 pc = some (.new n, 3)) : wp1 S M Q K pc L (st) w b = (1 ≤ b.1 ∧ N ≤ b.2 ∧ ∃ X, wT w X = 0 ∧ K (pc + 3) L (.ref X :: st) (nO w X t) (b.1 - 1, b.2 - N)) := by
  rw [wp1_is hP]
  subst hN; subst ht; simp [wpS, hC, h13]
theorem w1_callS {n : Nat} {ci : CI} {as : List Value} (hG : M.2.2.1 n = some ci) (h0 : ci.1 = 0) (hlen : as.length = ci.2.1) (hP : M.1 pc = some (.invokestatic n, 3)) : wp1 S M Q K pc L (as.reverse ++ st) w b = (wsum st ≤ 8 ∧ ci.2.2.1 ≤ b.1 ∧ ci.2.2.2.1 ≤ b.2 ∧ ci.2.2.2.2 as w (kont K Q pc L st b ci.2.2.1 ci.2.2.2.1)) := by
  rw [wp1_is hP]
  exact propext ⟨fun ⟨_, ci', as', t', h1, _, h3, h4, h5, h6, h7, h8⟩ => by
    rw [hG] at h1; cases h1
    have e1 := List.append_inj h4 (by rw [List.length_reverse, List.length_reverse, hlen, h3])
    have e2 := List.reverse_inj.mp e1.1
    obtain ⟨-, rfl⟩ := e1
    subst e2
    exact ⟨h5, h6, h7, h8⟩, fun h => ⟨rfl, ci, as, st, hG, h0, hlen, rfl, h⟩⟩
theorem w1_callV {n i : Nat} {ci : CI} {r : List Value} {as : List Value} (hG : M.2.2.1 n = some ci) (h0 : 1 ≤ ci.1) (h13 : ci.1 ≤ 13) (has : as = .ref i :: r) (hlen : as.length = ci.2.1) (hP : M.1 pc = some (.invokevirtual n, 3)) : wp1 S M Q K pc L (as.reverse ++ st) w b = (wsum st ≤ 8 ∧ ci.2.2.1 ≤ b.1 ∧ ci.2.2.2.1 ≤ b.2 ∧ ci.1 = wT w i ∧ ci.2.2.2.2 as w (kont K Q pc L st b ci.2.2.1 ci.2.2.2.1)) := by
  rw [wp1_is hP]
  exact propext ⟨fun ⟨_, ci', as', t', h1, ⟨i', r', hk1, hk2, _, _⟩, h3, h4, h5, h6, h7, h8⟩ => by
    rw [hG] at h1; cases h1
    have e1 := List.append_inj h4 (by rw [List.length_reverse, List.length_reverse, hlen, h3])
    have e2 := List.reverse_inj.mp e1.1
    obtain ⟨-, rfl⟩ := e1
    subst e2
    exact ⟨h5, h6, h7, by rw [has] at hk1; cases hk1; exact hk2, h8⟩, fun ⟨a1, a2, a3, a4, a5⟩ => ⟨rfl, ci, as, st, hG, ⟨i, r, has, a4, h0, h13⟩, hlen, rfl, a1, a2, a3, a5⟩⟩
theorem w1_ireturn {x : Int32} {ty : FieldType} (hty : S.2.2.1 = some ty) (hP : M.1 pc = some (.ireturn, 1)) : wp1 S M Q K pc L (.int x :: []) w b = (narrow ty (.int x) = .int x ∧ Q (.inl (some (.int x))) w) := by
  rw [wp1_is hP]
  simp [wpS, hty]
theorem w1_lreturn {x : Int64} (hty : S.2.2.1 = some .long) (hP : M.1 pc = some (.lreturn, 1)) : wp1 S M Q K pc L (.long x :: []) w b = (Q (.inl (some (.long x))) w) := by
  rw [wp1_is hP]
  simp [wpS, hty]
theorem w1_return_ (hty : S.2.2.1 = none) (hP : M.1 pc = some (.return_, 1)) : wp1 S M Q K pc L ([]) w b = (Q (.inl none) w) := by
  rw [wp1_is hP]
  simp [wpS, hty]
theorem w1_areturn {v : Value} {ty : FieldType} (hty : S.2.2.1 = some ty) (hrt : (∃ n, ty = .object n) ∨ ∃ t, ty = .array t) (hP : M.1 pc = some (.areturn, 1)) : wp1 S M Q K pc L (v :: []) w b = (isRfV v ∧ Q (.inl (some v)) w) := by
  rw [wp1_is hP]
  exact propext ⟨fun ⟨_, r, ty', h1, h2, _, h4⟩ => by
    rw [List.cons.injEq] at h1
    obtain ⟨rfl, -⟩ := h1
    exact ⟨by rw [isRfV_rf]; trivial, h4⟩, fun ⟨h1, h2⟩ => by
    obtain ⟨r, rfl⟩ := rfV_iff.mp h1
    exact ⟨rfl, r, ty, rfl, hty, hrt, h2⟩⟩
theorem e1_getstatic {n k : Nat} (hF : M.2.1 n = some (60, k)) (hk : ¬ k = 99) (hk9 : ¬ k = 19) (hP : M.1 pc = some (.getstatic n, 10003)) : wp1 S M Q K pc L (st) w b = (wT w k = 50 ∧ K (pc + 3) L (.ref k :: st) w b) := by
  rw [wpE_is hP]
  simp [wpE, hF, hk, hk9]
theorem e1_getstaticS {n : Nat} (hF : M.2.1 n = some (60, 19)) (hP : M.1 pc = some (.getstatic n, 10003)) : wp1 S M Q K pc L (st) w b = (K (pc + 3) L (.null :: st) w b ∧ wT w 19 = 50 ∧ K (pc + 3) L (.ref 19 :: st) w b) := by
  rw [wpE_is hP]
  simp [wpE, hF]
theorem e1_getstaticC {n : Nat} (hF : M.2.1 n = some (60, 99)) (hP : M.1 pc = some (.getstatic n, 10003)) : wp1 S M Q K pc L (st) w b = (K (pc + 3) L (.int 1 :: st) w b) := by
  rw [wpE_is hP]
  simp [wpE, hF]
theorem e1_getK {n k i : Nat} (hF : M.2.1 n = some (61, k)) (hk : k < 2) (hP : M.1 pc = some (.getfield n, 10003)) : wp1 S M Q K pc L (.ref i :: st) w b = (wT w i = 50 ∧ 10 + 10 * k ≤ i ∧ i < 16 + 10 * k ∧ wT w (i + 10) = 50 ∧ K (pc + 3) L (.ref (i + 10) :: st) w b) := by
  rw [wpE_is hP]
  have hk2 : ¬ k = 2 := by omega
  simp [wpE, hF, hk, hk2]
theorem e1_getKc {n i : Nat} (hF : M.2.1 n = some (61, 2)) (hP : M.1 pc = some (.getfield n, 10003)) : wp1 S M Q K pc L (.ref i :: st) w b = (wT w i = 50 ∧ 20 ≤ i ∧ i < 26 ∧ K (pc + 3) L (.int 0 :: st) w b) := by
  rw [wpE_is hP]
  simp [wpE, hF]
theorem e1_alen {i : Nat} (hP : M.1 pc = some (.arraylength, 10001)) : wp1 S M Q K pc L (.ref i :: st) w b = (∃ n, alR w i n ∧ K (pc + 1) L (.int (Int32.ofNat n) :: st) w b) := by
  rw [wpE_is hP]
  exact propext ⟨fun ⟨_, i', t', n, h1, h2, h3⟩ => by cases h1; exact ⟨n, h2, h3⟩, fun ⟨n, h2, h3⟩ => ⟨rfl, i, st, n, rfl, h2, h3⟩⟩
theorem e1_iaload {i : Nat} {x : Int32} (hP : M.1 pc = some (.iaload, 10001)) : wp1 S M Q K pc L (.int x :: .ref i :: st) w b = ((wT w i = 51 ∧ False) ∧ vp_in x (wN w i) ∧ K (pc + 1) L (.int (wA w i x.toNatClampNeg) :: st) w b) := by
  rw [wpE_is hP]
  exact propext ⟨fun ⟨_, x', i', t', h1, a0, a1, a2⟩ => by cases h1; exact ⟨a0, a1, a2⟩, fun ⟨a0, a1, a2⟩ => ⟨rfl, x, i, st, rfl, a0, a1, a2⟩⟩
theorem e1_baload {i : Nat} {x : Int32} (hP : M.1 pc = some (.baload, 10001)) : wp1 S M Q K pc L (.int x :: .ref i :: st) w b = (wT w i = 50 ∧ 30 ≤ i ∧ i < 36 ∧ vp_in x (kByt (i - 30)).length ∧ K (pc + 1) L (.int ((kByt (i - 30)).getD x.toNatClampNeg 0) :: st) w b) := by
  rw [wpE_is hP]
  exact propext ⟨fun ⟨_, x', i', t', h1, a0, a1, a2, a3, a4⟩ => by cases h1; exact ⟨a0, a1, a2, a3, a4⟩, fun ⟨a0, a1, a2, a3, a4⟩ => ⟨rfl, x, i, st, rfl, a0, a1, a2, a3, a4⟩⟩
theorem e1_aaload {i : Nat} {x : Int32} (h16 : ¬ i = 16) (hP : M.1 pc = some (.aaload, 10001)) : wp1 S M Q K pc L (.int x :: .ref i :: st) w b = ((wT w i = 23 ∨ wT w i = 24) ∧ vp_in x (wN w i) ∧ K (pc + 1) L (va_rf (wP w i x.toNatClampNeg) :: st) w b) := by
  rw [wpE_is hP]
  exact propext ⟨fun ⟨_, x', i', t', h1, h2⟩ => by
    cases h1
    rcases h2 with h | ⟨_, h, _⟩
    · exact h
    · exact absurd h h16, fun h => ⟨rfl, x, i, st, rfl, Or.inl h⟩⟩
theorem e1_aaloadK {x : Int32} (hT : wT w 16 = 50) (hP : M.1 pc = some (.aaload, 10001)) : wp1 S M Q K pc L (.int x :: .ref 16 :: st) w b = (vp_in x 6 ∧ wT w (10 + x.toNatClampNeg) = 50 ∧ K (pc + 1) L (.ref (10 + x.toNatClampNeg) :: st) w b) := by
  rw [wpE_is hP]
  exact propext ⟨fun ⟨_, x', i', t', h1, h2⟩ => by
    cases h1
    rcases h2 with ⟨h, _⟩ | ⟨_, _, h⟩
    · omega
    · exact h, fun h => ⟨rfl, x, 16, st, rfl, Or.inr ⟨hT, rfl, h⟩⟩⟩
def aOK (w : AW) (i : Nat) (r : Option Nat) : Prop := (wT w i = 23 ∧ ∀ j, r = some j → 1 ≤ wT w j ∧ wT w j ≤ 13) ∨ (wT w i = 24 ∧ ∀ j, r = some j → wT w j = 7)
theorem e1_aastore {i : Nat} {x : Int32} {r : Option Nat} (hP : M.1 pc = some (.aastore, 10001)) : wp1 S M Q K pc L (va_rf r :: .int x :: .ref i :: st) w b = (aOK w i r ∧ vp_in x (wN w i) ∧ K (pc + 1) L st (sP w i x.toNatClampNeg r) b) := by
  rw [wpE_is hP]
  exact propext ⟨fun ⟨_, r', x', i', t', h1, h2, h3, h4⟩ => by
    rw [List.cons.injEq] at h1
    obtain ⟨a1, a2⟩ := h1
    have e1 := va_rf_inj a1; subst e1; cases a2
    exact ⟨h2, h3, h4⟩, fun h => ⟨rfl, r, x, i, st, rfl, h.1, h.2.1, h.2.2⟩⟩
theorem e1_anewarray {n c t : Nat} {x : Int32} (hC : M.2.2.2.2.2 n = some c) (h50 : c = 50 ∨ c = 51) (ht : c - 27 = t) (hP : M.1 pc = some (.anewarray n, 10003)) : wp1 S M Q K pc L (.int x :: st) w b = (¬ x < 0 ∧ x.toNatClampNeg * 4 ≤ 536870912 ∧ 1 ≤ b.1 ∧ x.toNatClampNeg ≤ b.2 ∧ ∃ X, wT w X = 0 ∧ K (pc + 3) L (.ref X :: st) (nA w X t x.toNatClampNeg) (b.1 - 1, b.2 - x.toNatClampNeg)) := by
  rw [wpE_is hP]
  subst ht
  exact propext ⟨fun ⟨_, x', t', c', h1, _, h3, h4⟩ => by rw [hC] at h1; cases h1; cases h3; exact h4, fun h => ⟨rfl, x, st, c, hC, h50, rfl, h⟩⟩
theorem e1_cast {n c t i : Nat} (hC : M.2.2.2.2.2 n = some c) (ht : c + 1 = t) (h13 : c < 13) (hP : M.1 pc = some (.checkcast n, 10003)) : wp1 S M Q K pc L (.ref i :: st) w b = (wT w i = t ∧ K (pc + 3) L (.ref i :: st) w b) := by
  rw [wpE_is hP]
  subst ht
  simp [wpE, hC, h13]
theorem e1_ldcM {n : Nat} (hC : M.2.2.2.2.2 n = some 60) (hP : M.1 pc = some (.ldc n, 10002)) : wp1 S M Q K pc L (st) w b = (wT w 18 = 50 ∧ K (pc + 2) L (.ref 18 :: st) w b) := by
  rw [wpE_is hP]
  simp [wpE, hC]
theorem e1_getClass {n i : Nat} {ci : CI} (hG : M.2.2.1 n = some ci) (h98 : ci.1 = 98) (hP : M.1 pc = some (.invokevirtual n, 10003)) : wp1 S M Q K pc L (.ref i :: st) w b = (wT w i = 23 ∧ wT w 18 = 50 ∧ wsum st ≤ 8 ∧ K (pc + 3) L (.ref 18 :: st) w b) := by
  rw [wpE_is hP]
  exact propext ⟨fun h => by
    rcases h with ⟨_, ci', i', t', h1, h2, h3, h4⟩ | ⟨_, ci', as', t', h1, ⟨i', r', h2, h3, h4⟩, _⟩
    · cases h3; exact h4
    · rw [hG] at h1; cases h1; omega, fun h => Or.inl ⟨rfl, ci, i, st, hG, h98, rfl, h⟩⟩
theorem e1_callL {n i : Nat} {ci : CI} {r : List Value} {as : List Value} (hG : M.2.2.1 n = some ci) (h0 : ci.1 = 40) (has : as = .ref i :: r) (hlen : as.length = ci.2.1) (hP : M.1 pc = some (.invokevirtual n, 10003)) : wp1 S M Q K pc L (as.reverse ++ st) w b = (wsum st ≤ 8 ∧ ci.2.2.1 ≤ b.1 ∧ ci.2.2.2.1 ≤ b.2 ∧ wT w i = 40 ∧ ci.2.2.2.2 as w (kont K Q pc L st b ci.2.2.1 ci.2.2.2.1)) := by
  rw [wpE_is hP]
  exact propext ⟨fun h => by
    rcases h with ⟨_, ci', i', t', h1, h2, _⟩ | ⟨_, ci', as', t', h1, ⟨i', r', hk1, hk2⟩, h3, h4, h5, h6, h7, h8⟩
    · rw [hG] at h1; cases h1; omega
    · rw [hG] at h1; cases h1
      have e1 := List.append_inj h4 (by rw [List.length_reverse, List.length_reverse, hlen, h3])
      have e2 := List.reverse_inj.mp e1.1
      obtain ⟨-, rfl⟩ := e1
      subst e2
      rw [has] at hk1; cases hk1
      exact ⟨h5, h6, h7, by rw [← hk2.1]; exact h0, h8⟩, fun ⟨a1, a2, a3, a4, a5⟩ => Or.inr ⟨rfl, ci, as, st, hG, ⟨i, r, has, by rw [h0, a4], Or.inl h0⟩, hlen, rfl, a1, a2, a3, a5⟩⟩
theorem e1_callK {n i : Nat} {ci : CI} {r : List Value} {as : List Value} (hG : M.2.2.1 n = some ci) (h0 : ci.1 = 50) (has : as = .ref i :: r) (hlen : as.length = ci.2.1) (hP : M.1 pc = some (.invokevirtual n, 10003)) : wp1 S M Q K pc L (as.reverse ++ st) w b = (wsum st ≤ 8 ∧ ci.2.2.1 ≤ b.1 ∧ ci.2.2.2.1 ≤ b.2 ∧ wT w i = 50 ∧ 20 ≤ i ∧ i < 26 ∧ ci.2.2.2.2 as w (kont K Q pc L st b ci.2.2.1 ci.2.2.2.1)) := by
  rw [wpE_is hP]
  exact propext ⟨fun h => by
    rcases h with ⟨_, ci', i', t', h1, h2, _⟩ | ⟨_, ci', as', t', h1, ⟨i', r', hk1, hk2⟩, h3, h4, h5, h6, h7, h8⟩
    · rw [hG] at h1; cases h1; omega
    · rw [hG] at h1; cases h1
      have e1 := List.append_inj h4 (by rw [List.length_reverse, List.length_reverse, hlen, h3])
      have e2 := List.reverse_inj.mp e1.1
      obtain ⟨-, rfl⟩ := e1
      subst e2
      rw [has] at hk1; cases hk1
      obtain ⟨g1, g2 | ⟨-, g2, g3⟩⟩ := hk2
      · omega
      · exact ⟨h5, h6, h7, by rw [← g1]; exact h0, g2, g3, h8⟩, fun ⟨a1, a2, a3, a4, b1, b2, a5⟩ => Or.inr ⟨rfl, ci, as, st, hG, ⟨i, r, has, by rw [h0, a4], Or.inr ⟨h0, b1, b2⟩⟩, hlen, rfl, a1, a2, a3, a5⟩⟩
theorem e1_copy {n si di : Nat} {x y z : Int32} {ci : CI} (hG : M.2.2.1 n = some ci) (h97 : ci.1 = 97) (hP : M.1 pc = some (.invokestatic n, 10003)) : wp1 S M Q K pc L (.int z :: .int y :: .ref di :: .int x :: .ref si :: st) w b = (wT w si = 23 ∧ wT w di = 23 ∧ ¬ x < 0 ∧ ¬ y < 0 ∧ ¬ z < 0 ∧ x.toNatClampNeg + z.toNatClampNeg ≤ wN w si ∧ y.toNatClampNeg + z.toNatClampNeg ≤ wN w di ∧ (∀ q j, wP w si q = some j → 1 ≤ wT w j ∧ wT w j ≤ 13) ∧ wsum st ≤ 8 ∧ K (pc + 3) L st (sQ w di (va_cpy (wP w si) (wP w di) x.toNatClampNeg y.toNatClampNeg z.toNatClampNeg)) b) := by
  rw [wpE_is hP]
  exact propext ⟨fun h => by
    rcases h with ⟨_, ci', x', y', z', s', d', t', h1, h2, h3, h4⟩ | ⟨_, ci', x', y', t', h1, h2, _⟩ | ⟨_, ci', x', y', t', h1, h2, _⟩ | ⟨_, ci', x', t', h1, h2, _⟩
    · cases h3; exact h4
    all_goals rw [hG] at h1; cases h1; omega, fun h => Or.inl ⟨rfl, ci, x, y, z, si, di, st, hG, h97, rfl, h⟩⟩
theorem e1_mmax {n : Nat} {x y : Int32} {ci : CI} (hG : M.2.2.1 n = some ci) (h9 : ci.1 = 94) (hP : M.1 pc = some (.invokestatic n, 10003)) : wp1 S M Q K pc L (.int y :: .int x :: st) w b = (wsum st ≤ 8 ∧ K (pc + 3) L (.int (if x < y then y else x) :: st) w b) := by
  rw [wpE_is hP]
  exact propext ⟨fun h => by
    rcases h with ⟨_, ci', x', y', z', s', d', t', h1, h2, h3, h4⟩ | ⟨_, ci', x', y', t', h1, h2, h3, h4⟩ | ⟨_, ci', x', y', t', h1, h2, h3, h4⟩ | ⟨_, ci', x', t', h1, h2, h3, h4⟩
    · rw [hG] at h1; cases h1; omega
    · cases h3; exact h4
    · rw [hG] at h1; cases h1; omega
    · rw [hG] at h1; cases h1; omega, fun h => Or.inr (Or.inl ⟨rfl, ci, x, y, st, hG, h9, rfl, h⟩)⟩
theorem e1_mmin {n : Nat} {x y : Int32} {ci : CI} (hG : M.2.2.1 n = some ci) (h9 : ci.1 = 95) (hP : M.1 pc = some (.invokestatic n, 10003)) : wp1 S M Q K pc L (.int y :: .int x :: st) w b = (wsum st ≤ 8 ∧ K (pc + 3) L (.int (if y < x then y else x) :: st) w b) := by
  rw [wpE_is hP]
  exact propext ⟨fun h => by
    rcases h with ⟨_, ci', x', y', z', s', d', t', h1, h2, h3, h4⟩ | ⟨_, ci', x', y', t', h1, h2, h3, h4⟩ | ⟨_, ci', x', y', t', h1, h2, h3, h4⟩ | ⟨_, ci', x', t', h1, h2, h3, h4⟩
    · rw [hG] at h1; cases h1; omega
    · rw [hG] at h1; cases h1; omega
    · cases h3; exact h4
    · rw [hG] at h1; cases h1; omega, fun h => Or.inr (Or.inr (Or.inl ⟨rfl, ci, x, y, st, hG, h9, rfl, h⟩))⟩
theorem e1_mabs {n : Nat} {x : Int32} {ci : CI} (hG : M.2.2.1 n = some ci) (h9 : ci.1 = 96) (hP : M.1 pc = some (.invokestatic n, 10003)) : wp1 S M Q K pc L (.int x :: st) w b = (wsum st ≤ 8 ∧ K (pc + 3) L (.int (if 0 ≤ x then x else 0 - x) :: st) w b) := by
  rw [wpE_is hP]
  exact propext ⟨fun h => by
    rcases h with ⟨_, ci', x', y', z', s', d', t', h1, h2, h3, h4⟩ | ⟨_, ci', x', y', t', h1, h2, h3, h4⟩ | ⟨_, ci', x', y', t', h1, h2, h3, h4⟩ | ⟨_, ci', x', t', h1, h2, h3, h4⟩
    · rw [hG] at h1; cases h1; omega
    · rw [hG] at h1; cases h1; omega
    · rw [hG] at h1; cases h1; omega
    · cases h3; exact h4, fun h => Or.inr (Or.inr (Or.inr ⟨rfl, ci, x, st, hG, h9, rfl, h⟩))⟩
def kontI (K : XP) (pc : Nat) (L : AL) (t : List Value) (b : Nat × Nat) (kc ks : Nat) : AO → AW → Prop := fun o w1 => match o with
  | .inl v => K (pc + 3) L (v.toList ++ t) w1 (b.1 - kc, b.2 - ks)
  | .inr _ => False
theorem kontI_none (t : List Value) (kc ks : Nat) (w1 : AW) : kontI K pc L t b kc ks (.inl none) w1 = K (pc + 3) L t w1 (b.1 - kc, b.2 - ks) := Eq.trans rfl rfl
theorem kontI_inr (t : List Value) (kc ks : Nat) (C : String) (w1 : AW) : kontI K pc L t b kc ks (.inr C) w1 = False := Eq.trans rfl rfl
theorem e1_nest {n i : Nat} {ci : CI} {r as : List Value} (hG : M.2.2.1 n = some ci) (h0 : ci.1 = 101) (has : as = .ref i :: r) (hlen : as.length = ci.2.1) (hP : M.1 pc = some (.invokespecial n, 10003)) : wp1 S M Q K pc L (as.reverse ++ st) w b = (wsum st ≤ 8 ∧ ci.2.2.1 ≤ b.1 ∧ ci.2.2.2.1 ≤ b.2 ∧ ci.2.2.2.2 as w (kontI K pc L st b ci.2.2.1 ci.2.2.2.1)) := by
  rw [wpE_is hP]
  exact propext ⟨fun ⟨_, ci', as', t', h1, h2, h9, h3, h4, h5, h6, h7, h8⟩ => by
      rw [hG] at h1; cases h1
      have e1 := List.append_inj h4 (by rw [List.length_reverse, List.length_reverse, hlen, h3])
      have e2 := List.reverse_inj.mp e1.1
      obtain ⟨-, rfl⟩ := e1
      subst e2
      exact ⟨h5, h6, h7, h8⟩, fun ⟨a1, a2, a3, a4⟩ => ⟨rfl, ci, as, st, hG, h0, ⟨i, r, has⟩, hlen, rfl, a1, a2, a3, a4⟩⟩
theorem uq_343 : ∀ ic cls, (343, ic, cls) ∈ excs → cls = "java/lang/IllegalArgumentException" := by
  intro a b h
  simp [excs] at h
  exact h.2
theorem uq_123 : ∀ ic cls, (123, ic, cls) ∈ excs → cls = "java/util/NoSuchElementException" := by
  intro a b h
  simp [excs] at h
  exact h.2
theorem uq_354 : ∀ ic cls, (354, ic, cls) ∈ excs → cls = "java/lang/IndexOutOfBoundsException" := by
  intro a b h
  simp [excs] at h
  exact h.2
theorem uq_192 : ∀ ic cls, (192, ic, cls) ∈ excs → cls = "java/lang/IllegalStateException" := by
  intro a b h
  simp [excs] at h
  exact h.2
theorem e1_throw {n ic is k4 : Nat} {cls tx : String} (hS : S.1 = RX11) (hq : (n, ic, cls) ∈ excs) (hu : ∀ ic cls', (n, ic, cls') ∈ excs → cls' = cls) (hm : (is, tx) ∈ msgs) (d3 : M.1 (pc + 3) = some (.dup, 1)) (d4 : (M.1 (pc + 4) = some (.ldc is, 2) ∧ M.1 (pc + 6) = some (.invokespecial ic, 3) ∧ M.1 (pc + 9) = some (.athrow, 1)) ∨ (M.1 (pc + 4) = some (.ldc_w is, 3) ∧ M.1 (pc + 7) = some (.invokespecial ic, 3) ∧ M.1 (pc + 10) = some (.athrow, 1))) (hP : M.1 pc = some (.new n, 10003)) : wp1 S M Q K pc L (st) w b = (wsum st ≤ 8 ∧ 1 ≤ b.1 ∧ 6 ≤ b.2 ∧ Q (.inr cls) w) := by
  rw [wpE_is hP]
  exact propext ⟨fun ⟨_, _, ic', cls', is', tx', h1, _, _, _, h5, h6, h7, h8⟩ => by
    have e1 := hu _ _ h1
    subst e1
    exact ⟨h5, h6, h7, h8⟩, fun h => ⟨rfl, hS, ic, cls, is, tx, hq, hm, d3, d4, h⟩⟩
end STEPS
/-- tables as lists -/
def alk {α : Type} (l : List (Nat × α)) (k : Nat) : Option α := match l with
  | [] => none
  | q :: r => bif Nat.beq q.1 k then some q.2 else alk r k
theorem alk_mem {α : Type} {l : List (Nat × α)} {k : Nat} {x : α} (h : alk l k = some x) : (k, x) ∈ l := by
  induction l with
  | nil => cases h
  | cons q r ih =>
    unfold alk at h
    cases hq : Nat.beq q.1 k with
    | true =>
      rw [hq] at h
      have e1 : q.1 = k := Nat.eq_of_beq_eq_true hq
      cases h
      subst e1
      exact List.mem_cons_self
    | false => rw [hq] at h; exact List.mem_cons_of_mem _ (ih h)
theorem alk_all {α : Type} {l : List (Nat × α)} {P : Nat → α → Prop} (h : ∀ q ∈ l, P q.1 q.2) : ∀ k x, alk l k = some x → P k x := fun k x hx => h (k, x) (alk_mem hx)
theorem plk_ok {cc : ByteArray} {l : List (Nat × Instr × Nat)} (h : ∀ q ∈ l, decode cc q.1 = .ok (q.2.1, q.2.2 % 10000)) : ∀ pc i len, alk l pc = some (i, len) → decode cc pc = .ok (i, len % 10000) := fun pc i len hx => h (pc, i, len) (alk_mem hx)
def fOK (own : String) (idx c k : Nat) : Prop := (c < 13 → k < vnn c ∧ ∃ ref, Cond.fieldLink own idx ref (vTb c k).2.1 (vTb c k).2.2.1 ∈ TBL ∧ (ref = (vTb c k).1 ∨ Cond.sameField ref (vTb c k).1 (vTb c k).2.1 (vTb c k).2.2.1 ∈ TBL)) ∧
    (c = 60 → (10 ≤ k ∧ k < 16 ∧ Cond.fieldLink own idx RX4 (kNm (k - 10)) "LTravellingPictures$Kind;" ∈ TBL) ∨ (k = 16 ∧ Cond.fieldLinkNest own idx RX11 "KINDS" "[LTravellingPictures$Kind;" RX11 ∈ NGW) ∨ (k = 17 ∧ Cond.fieldLink own idx RJx4a65c "DEFAULTCAPACITY_EMPTY_ELEMENTDATA" "[Ljava/lang/Object;" ∈ TBL) ∨ (k = 99 ∧ Cond.fieldLink own idx "java/lang/String" "COMPACT_STRINGS" "Z" ∈ TBL) ∨ (k = 19 ∧ Cond.fieldLink own idx RJ3 "SIOOBE_FORMATTER" "Ljava/util/function/BiFunction;" ∈ TBL)) ∧
    (c = 61 → (k = 0 ∧ Cond.fieldLink own idx RX4 "word" "Ljava/lang/String;" ∈ TBL) ∨ (k = 1 ∧ Cond.fieldLink own idx "java/lang/String" "value" "[B" ∈ TBL) ∨ (k = 2 ∧ Cond.fieldLink own idx "java/lang/String" "coder" "B" ∈ TBL))
theorem fOK.own {own : String} {idx c k : Nat} (hc : c < 13) (hk : k < vnn c) (h : Cond.fieldLink own idx (vTb c k).1 (vTb c k).2.1 (vTb c k).2.2.1 ∈ TBL) : fOK own idx c k := ⟨fun _ => ⟨hk, _, h, Or.inl rfl⟩, fun h => absurd h (by omega), fun h => absurd h (by omega)⟩
theorem fOK.k60 {own : String} {idx k : Nat} (h : (10 ≤ k ∧ k < 16 ∧ Cond.fieldLink own idx RX4 (kNm (k - 10)) "LTravellingPictures$Kind;" ∈ TBL) ∨ (k = 16 ∧ Cond.fieldLinkNest own idx RX11 "KINDS" "[LTravellingPictures$Kind;" RX11 ∈ NGW) ∨ (k = 17 ∧ Cond.fieldLink own idx RJx4a65c "DEFAULTCAPACITY_EMPTY_ELEMENTDATA" "[Ljava/lang/Object;" ∈ TBL) ∨ (k = 99 ∧ Cond.fieldLink own idx "java/lang/String" "COMPACT_STRINGS" "Z" ∈ TBL) ∨ (k = 19 ∧ Cond.fieldLink own idx RJ3 "SIOOBE_FORMATTER" "Ljava/util/function/BiFunction;" ∈ TBL)) : fOK own idx 60 k := ⟨fun h => absurd h (by decide), fun _ => h, fun h => absurd h (by decide)⟩
theorem fOK.k61 {own : String} {idx k : Nat} (h : (k = 0 ∧ Cond.fieldLink own idx RX4 "word" "Ljava/lang/String;" ∈ TBL) ∨ (k = 1 ∧ Cond.fieldLink own idx "java/lang/String" "value" "[B" ∈ TBL) ∨ (k = 2 ∧ Cond.fieldLink own idx "java/lang/String" "coder" "B" ∈ TBL)) : fOK own idx 61 k := ⟨fun h => absurd h (by decide), fun h => absurd h (by decide), fun _ => h⟩
def kOK (own : String) (idx c : Nat) : Prop := (c < 13 → Cond.classLink own idx (vRn c) ∈ TBL ∧ Cond.instantiable (vRn c) (vnn c) ∈ TBL ∧ Cond.initialized (vRn c) ∈ TBL) ∧ (c = 50 → Cond.classLink own idx "java/lang/Object" ∈ TBL) ∧ (c = 51 → Cond.classLink own idx RX6 ∈ TBL) ∧ (c = 60 → Cond.classLink own idx "[Ljava/lang/Object;" ∈ TBL)
theorem kOK.own {own : String} {idx c : Nat} (hc : c < 13) (h : Cond.classLink own idx (vRn c) ∈ TBL ∧ Cond.instantiable (vRn c) (vnn c) ∈ TBL ∧ Cond.initialized (vRn c) ∈ TBL) : kOK own idx c := ⟨fun _ => h, fun h => absurd h (by omega), fun h => absurd h (by omega), fun h => absurd h (by omega)⟩
theorem kOK.k50 {own : String} {idx : Nat} (h : Cond.classLink own idx "java/lang/Object" ∈ TBL) : kOK own idx 50 := ⟨fun h => absurd h (by decide), fun _ => h, fun h => absurd h (by decide), fun h => absurd h (by decide)⟩
theorem kOK.k51 {own : String} {idx : Nat} (h : Cond.classLink own idx RX6 ∈ TBL) : kOK own idx 51 := ⟨fun h => absurd h (by decide), fun h => absurd h (by decide), fun _ => h, fun h => absurd h (by decide)⟩
theorem kOK.k60 {own : String} {idx : Nat} (h : Cond.classLink own idx "[Ljava/lang/Object;" ∈ TBL) : kOK own idx 60 := ⟨fun h => absurd h (by decide), fun h => absurd h (by decide), fun h => absurd h (by decide), fun _ => h⟩
theorem flk_ok {own : String} {l : List (Nat × Nat × Nat)} (h : ∀ q ∈ l, fOK own q.1 q.2.1 q.2.2) : ∀ idx c k, alk l idx = some (c, k) → fOK own idx c k := fun idx c k hx => h (idx, c, k) (alk_mem hx)
/-- a program without a marked 'new' has no throw -/
theorem nothrow {R : Room} {l : List (Nat × Instr × Nat)} (h : (l.all (fun q => decide (q.2.2 ≠ 10003) || (match q.2.1 with | .new _ => false | _ => true))) = true) : ∀ pc n, alk l pc = some (.new n, 10003) → 6 ≤ R.frames ∧ 90 ≤ R.locals := fun pc n hx => by
  have h1 := List.all_eq_true.mp h _ (alk_mem hx)
  simp at h1
