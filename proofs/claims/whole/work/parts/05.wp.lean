/-! ===== WHAT IS OWED AT EACH INSTRUCTION, over abstract worlds ===== -/
def TBL : List Cond := lw_tbl.filter goodWord
theorem TBL_good {w : Cond} (h : w ∈ TBL) : (w.onTables && w.keeps) = true ∨ ∃ ty, w = .arrayClass ty := good_of_word (List.mem_filter.mp h).2
theorem TBL_in {w : Cond} (h : w ∈ lw_tbl) (g : goodWord w = true) : w ∈ TBL := List.mem_filter.mpr ⟨h, g⟩
theorem TBL_tb {w : Cond} (h : w ∈ tables_1) (g : goodWord w = true) : w ∈ TBL := TBL_in (List.mem_append_right _ h) g
/-- how a call ends: returned, or thrown by the name of its class -/
abbrev AO : Type := Option Value ⊕ String
abbrev CSp : Type := List Value → AW → (AO → AW → Prop) → Prop
/-- a call: kind (0 static, 1 to 13 the receiver's class, 99 Object's constructor, 100 a constructor), how many values it takes, its cells and slots, what it owes -/
abbrev CI : Type := Nat × Nat × Nat × Nat × CSp
/-- program, fields, calls, int constants, long constants, classes of 'new' -/
abbrev MT : Type := (Nat → Option (Instr × Nat)) × (Nat → Option (Nat × Nat)) × (Nat → Option CI) × (Nat → Option Int32) × (Nat → Option Int64) × (Nat → Option Nat)
/-- own name, locals, returned type, is it a constructor -/
abbrev MS : Type := String × Nat × Option FieldType × Bool
abbrev XP : Type := Nat → AL → List Value → AW → Nat × Nat → Prop
def gv (w : AW) (c k i : Nat) : Value := if isRf (vty c k) then va_rf (wR w (64 * c + k) i) else .int (wI w (64 * c + k) i)
def wsum (st : List Value) : Nat := (st.map fun v => v.category).sum
def mat (t : ArrayType) : Nat := match t with
  | .int => 20
  | .byte => 21
  | .long => 22
  | _ => 0
def wpS (S : MS) (M : MT) (Q : AO → AW → Prop) (i : Instr) (len : Nat) (K : XP) : XP := fun pc L st w b => match i with
  | .aconst_null => len = 1 ∧ K (pc + 1) L (.null :: st) w b
  | .iconst n => len = 1 ∧ K (pc + 1) L (.int (Int32.ofInt n) :: st) w b
  | .bipush n => len = 2 ∧ K (pc + 2) L (.int (Int8.ofInt n).toInt32 :: st) w b
  | .sipush n => len = 3 ∧ K (pc + 3) L (.int (Int16.ofInt n).toInt32 :: st) w b
  | .lconst n => len = 1 ∧ K (pc + 1) L (.long (Int64.ofNat (n : Nat)) :: st) w b
  | .iload n => len = 2 ∧ ∃ x, L n = some (.int x) ∧ K (pc + 2) L (.int x :: st) w b
  | .iload_n n => len = 1 ∧ ∃ x, L (n : Nat) = some (.int x) ∧ K (pc + 1) L (.int x :: st) w b
  | .lload n => len = 2 ∧ ∃ x, L n = some (.long x) ∧ K (pc + 2) L (.long x :: st) w b
  | .lload_n n => len = 1 ∧ ∃ x, L (n : Nat) = some (.long x) ∧ K (pc + 1) L (.long x :: st) w b
  | .aload n => len = 2 ∧ ∃ r, L n = some (va_rf r) ∧ K (pc + 2) L (va_rf r :: st) w b
  | .aload_n n => len = 1 ∧ ∃ r, L (n : Nat) = some (va_rf r) ∧ K (pc + 1) L (va_rf r :: st) w b
  | .istore n => len = 2 ∧ ∃ x t, st = .int x :: t ∧ n < S.2.1 ∧ K (pc + 2) (ls1 L n (.int x)) t w b
  | .istore_n n => len = 1 ∧ ∃ x t, st = .int x :: t ∧ (n : Nat) < S.2.1 ∧ K (pc + 1) (ls1 L n (.int x)) t w b
  | .lstore n => len = 2 ∧ ∃ x t, st = .long x :: t ∧ n + 1 < S.2.1 ∧ K (pc + 2) (ls2 L n (.long x)) t w b
  | .lstore_n n => len = 1 ∧ ∃ x t, st = .long x :: t ∧ (n : Nat) + 1 < S.2.1 ∧ K (pc + 1) (ls2 L n (.long x)) t w b
  | .astore n => len = 2 ∧ ∃ r t, st = va_rf r :: t ∧ n < S.2.1 ∧ K (pc + 2) (ls1 L n (va_rf r)) t w b
  | .astore_n n => len = 1 ∧ ∃ r t, st = va_rf r :: t ∧ (n : Nat) < S.2.1 ∧ K (pc + 1) (ls1 L n (va_rf r)) t w b
  | .iinc n d => len = 3 ∧ ∃ x, L n = some (.int x) ∧ n < S.2.1 ∧ K (pc + 3) (ls1 L n (.int (x + Int32.ofInt d))) st w b
  | .iadd => len = 1 ∧ ∃ x y t, st = .int y :: .int x :: t ∧ K (pc + 1) L (.int (x + y) :: t) w b
  | .isub => len = 1 ∧ ∃ x y t, st = .int y :: .int x :: t ∧ K (pc + 1) L (.int (x - y) :: t) w b
  | .imul => len = 1 ∧ ∃ x y t, st = .int y :: .int x :: t ∧ K (pc + 1) L (.int (x * y) :: t) w b
  | .iand => len = 1 ∧ ∃ x y t, st = .int y :: .int x :: t ∧ K (pc + 1) L (.int (x &&& y) :: t) w b
  | .ior => len = 1 ∧ ∃ x y t, st = .int y :: .int x :: t ∧ K (pc + 1) L (.int (x ||| y) :: t) w b
  | .ixor => len = 1 ∧ ∃ x y t, st = .int y :: .int x :: t ∧ K (pc + 1) L (.int (x ^^^ y) :: t) w b
  | .ishl => len = 1 ∧ ∃ x y t, st = .int y :: .int x :: t ∧ K (pc + 1) L (.int (x <<< (y &&& 31)) :: t) w b
  | .ishr => len = 1 ∧ ∃ x y t, st = .int y :: .int x :: t ∧ K (pc + 1) L (.int (x >>> (y &&& 31)) :: t) w b
  | .iushr => len = 1 ∧ ∃ x y t, st = .int y :: .int x :: t ∧ K (pc + 1) L (.int ((x.toUInt32 >>> (y.toUInt32 &&& Int32.toUInt32 31)).toInt32) :: t) w b
  | .idiv => len = 1 ∧ ∃ x y t, st = .int y :: .int x :: t ∧ ¬ y = 0 ∧ K (pc + 1) L (.int (x / y) :: t) w b
  | .irem => len = 1 ∧ ∃ x y t, st = .int y :: .int x :: t ∧ ¬ y = 0 ∧ K (pc + 1) L (.int (x - x / y * y) :: t) w b
  | .ineg => len = 1 ∧ ∃ x t, st = .int x :: t ∧ K (pc + 1) L (.int (-x) :: t) w b
  | .ladd => len = 1 ∧ ∃ x y t, st = .long y :: .long x :: t ∧ K (pc + 1) L (.long (x + y) :: t) w b
  | .lsub => len = 1 ∧ ∃ x y t, st = .long y :: .long x :: t ∧ K (pc + 1) L (.long (x - y) :: t) w b
  | .lor => len = 1 ∧ ∃ x y t, st = .long y :: .long x :: t ∧ K (pc + 1) L (.long (x ||| y) :: t) w b
  | .land => len = 1 ∧ ∃ x y t, st = .long y :: .long x :: t ∧ K (pc + 1) L (.long (x &&& y) :: t) w b
  | .lneg => len = 1 ∧ ∃ x t, st = .long x :: t ∧ K (pc + 1) L (.long (-x) :: t) w b
  | .lshl => len = 1 ∧ ∃ (x : Int64) (y : Int32) (t : List Value), st = .int y :: .long x :: t ∧ K (pc + 1) L (.long (x <<< (y.toInt64 &&& 63)) :: t) w b
  | .lshr => len = 1 ∧ ∃ (x : Int64) (y : Int32) (t : List Value), st = .int y :: .long x :: t ∧ K (pc + 1) L (.long (x >>> (y.toInt64 &&& 63)) :: t) w b
  | .lcmp => len = 1 ∧ ∃ x y t, st = .long y :: .long x :: t ∧ K (pc + 1) L (.int (lg_cmp x y) :: t) w b
  | .i2l => len = 1 ∧ ∃ x t, st = .int x :: t ∧ K (pc + 1) L (.long x.toInt64 :: t) w b
  | .l2i => len = 1 ∧ ∃ x t, st = .long x :: t ∧ K (pc + 1) L (.int x.toInt32 :: t) w b
  | .i2c => len = 1 ∧ ∃ x t, st = .int x :: t ∧ K (pc + 1) L (.int ((x.toUInt32 % 65536).toInt32) :: t) w b
  | .i2b => len = 1 ∧ ∃ x t, st = .int x :: t ∧ K (pc + 1) L (.int x.toInt8.toInt32 :: t) w b
  | .dup => len = 1 ∧ ∃ v t, st = v :: t ∧ v.category = 1 ∧ K (pc + 1) L (v :: v :: t) w b
  | .pop => len = 1 ∧ ∃ v t, st = v :: t ∧ v.category = 1 ∧ K (pc + 1) L t w b
  | .dup2 => len = 1 ∧ ∃ u v t, st = u :: v :: t ∧ u.category = 1 ∧ v.category = 1 ∧ K (pc + 1) L (u :: v :: u :: v :: t) w b
  | .dup_x1 => len = 1 ∧ ∃ u v t, st = u :: v :: t ∧ u.category = 1 ∧ v.category = 1 ∧ K (pc + 1) L (u :: v :: u :: t) w b
  | .goto d => len = 3 ∧ ∃ g : Nat, (pc : Int) + d = (g : Int) ∧ K g L st w b
  | .if_icmp .eq d => len = 3 ∧ ∃ (g : Nat) (x y : Int32) (t : List Value), (pc : Int) + d = (g : Int) ∧ st = .int y :: .int x :: t ∧ (x = y → K g L t w b) ∧ (¬ x = y → K (pc + 3) L t w b)
  | .if_icmp .ne d => len = 3 ∧ ∃ (g : Nat) (x y : Int32) (t : List Value), (pc : Int) + d = (g : Int) ∧ st = .int y :: .int x :: t ∧ (¬ x = y → K g L t w b) ∧ (x = y → K (pc + 3) L t w b)
  | .if_icmp .lt d => len = 3 ∧ ∃ (g : Nat) (x y : Int32) (t : List Value), (pc : Int) + d = (g : Int) ∧ st = .int y :: .int x :: t ∧ (x < y → K g L t w b) ∧ (¬ x < y → K (pc + 3) L t w b)
  | .if_icmp .ge d => len = 3 ∧ ∃ (g : Nat) (x y : Int32) (t : List Value), (pc : Int) + d = (g : Int) ∧ st = .int y :: .int x :: t ∧ (y ≤ x → K g L t w b) ∧ (¬ y ≤ x → K (pc + 3) L t w b)
  | .if_icmp .gt d => len = 3 ∧ ∃ (g : Nat) (x y : Int32) (t : List Value), (pc : Int) + d = (g : Int) ∧ st = .int y :: .int x :: t ∧ (y < x → K g L t w b) ∧ (¬ y < x → K (pc + 3) L t w b)
  | .if_icmp .le d => len = 3 ∧ ∃ (g : Nat) (x y : Int32) (t : List Value), (pc : Int) + d = (g : Int) ∧ st = .int y :: .int x :: t ∧ (x ≤ y → K g L t w b) ∧ (¬ x ≤ y → K (pc + 3) L t w b)
  | .ifCond .eq d => len = 3 ∧ ∃ (g : Nat) (x : Int32) (t : List Value), (pc : Int) + d = (g : Int) ∧ st = .int x :: t ∧ (x = 0 → K g L t w b) ∧ (¬ x = 0 → K (pc + 3) L t w b)
  | .ifCond .ne d => len = 3 ∧ ∃ (g : Nat) (x : Int32) (t : List Value), (pc : Int) + d = (g : Int) ∧ st = .int x :: t ∧ (¬ x = 0 → K g L t w b) ∧ (x = 0 → K (pc + 3) L t w b)
  | .ifCond .lt d => len = 3 ∧ ∃ (g : Nat) (x : Int32) (t : List Value), (pc : Int) + d = (g : Int) ∧ st = .int x :: t ∧ (x < 0 → K g L t w b) ∧ (¬ x < 0 → K (pc + 3) L t w b)
  | .ifCond .ge d => len = 3 ∧ ∃ (g : Nat) (x : Int32) (t : List Value), (pc : Int) + d = (g : Int) ∧ st = .int x :: t ∧ (0 ≤ x → K g L t w b) ∧ (¬ 0 ≤ x → K (pc + 3) L t w b)
  | .ifCond .gt d => len = 3 ∧ ∃ (g : Nat) (x : Int32) (t : List Value), (pc : Int) + d = (g : Int) ∧ st = .int x :: t ∧ (0 < x → K g L t w b) ∧ (¬ 0 < x → K (pc + 3) L t w b)
  | .ifCond .le d => len = 3 ∧ ∃ (g : Nat) (x : Int32) (t : List Value), (pc : Int) + d = (g : Int) ∧ st = .int x :: t ∧ (x ≤ 0 → K g L t w b) ∧ (¬ x ≤ 0 → K (pc + 3) L t w b)
  | .if_acmp .eq d => len = 3 ∧ ∃ (g : Nat) (x y : Option Nat) (t : List Value), (pc : Int) + d = (g : Int) ∧ st = va_rf y :: va_rf x :: t ∧ acOK w x y ∧ (x = y → K g L t w b) ∧ (¬ x = y → K (pc + 3) L t w b)
  | .if_acmp .ne d => len = 3 ∧ ∃ (g : Nat) (x y : Option Nat) (t : List Value), (pc : Int) + d = (g : Int) ∧ st = va_rf y :: va_rf x :: t ∧ acOK w x y ∧ (¬ x = y → K g L t w b) ∧ (x = y → K (pc + 3) L t w b)
  | .ifnull d => len = 3 ∧ ∃ (g : Nat) (x : Option Nat) (t : List Value), (pc : Int) + d = (g : Int) ∧ st = va_rf x :: t ∧ (x = none → K g L t w b) ∧ (¬ x = none → K (pc + 3) L t w b)
  | .ifnonnull d => len = 3 ∧ ∃ (g : Nat) (x : Option Nat) (t : List Value), (pc : Int) + d = (g : Int) ∧ st = va_rf x :: t ∧ (¬ x = none → K g L t w b) ∧ (x = none → K (pc + 3) L t w b)
  | .tableswitch df lo hi offs => ∃ (x : Int32) (t : List Value), st = .int x :: t ∧ ((x.toInt < lo ∨ hi < x.toInt) → ∃ g : Nat, (pc : Int) + df = (g : Int) ∧ K g L t w b) ∧ (¬ x.toInt < lo → ¬ hi < x.toInt → ∃ (o : Int) (g : Nat), offs[(x.toInt - lo).toNat]? = some o ∧ (pc : Int) + o = (g : Int) ∧ K g L t w b)
  | .ldc n => len = 2 ∧ ∃ v, M.2.2.2.1 n = some v ∧ K (pc + 2) L (.int v :: st) w b
  | .ldc_w n => len = 3 ∧ ∃ v, M.2.2.2.1 n = some v ∧ K (pc + 3) L (.int v :: st) w b
  | .ldc2_w n => len = 3 ∧ ∃ v, M.2.2.2.2.1 n = some v ∧ K (pc + 3) L (.long v :: st) w b
  | .getfield n => len = 3 ∧ ∃ c k i t, M.2.1 n = some (c, k) ∧ c < 13 ∧ st = .ref i :: t ∧ wT w i = c + 1 ∧ K (pc + 3) L (gv w c k i :: t) w b
  | .putfield n => len = 3 ∧ ∃ c k i v t, M.2.1 n = some (c, k) ∧ c < 13 ∧ st = v :: .ref i :: t ∧ wT w i = c + 1 ∧ ((vTb c k).2.2.2 = false ∨ (S.2.2.2 = true ∧ (vTb c k).1 = S.1)) ∧ ((isRf (vty c k) = true ∧ ∃ r, v = va_rf r ∧ K (pc + 3) L t (sR w (64 * c + k) i r) b) ∨ (isRf (vty c k) = false ∧ ∃ x, v = .int x ∧ K (pc + 3) L t (sI w (64 * c + k) i x) b))
  | .arraylength => len = 1 ∧ ∃ i t, st = .ref i :: t ∧ (wT w i = 20 ∨ wT w i = 21 ∨ wT w i = 22) ∧ K (pc + 1) L (.int (Int32.ofNat (wN w i)) :: t) w b
  | .iaload => len = 1 ∧ ∃ x i t, st = .int x :: .ref i :: t ∧ wT w i = 20 ∧ vp_in x (wN w i) ∧ K (pc + 1) L (.int (wA w i x.toNatClampNeg) :: t) w b
  | .baload => len = 1 ∧ ∃ x i t, st = .int x :: .ref i :: t ∧ wT w i = 21 ∧ vp_in x (wN w i) ∧ K (pc + 1) L (.int (wA w i x.toNatClampNeg) :: t) w b
  | .laload => len = 1 ∧ ∃ x i t, st = .int x :: .ref i :: t ∧ wT w i = 22 ∧ vp_in x (wN w i) ∧ K (pc + 1) L (.long (wJ w i x.toNatClampNeg) :: t) w b
  | .iastore => len = 1 ∧ ∃ v x i t, st = .int v :: .int x :: .ref i :: t ∧ wT w i = 20 ∧ vp_in x (wN w i) ∧ K (pc + 1) L t (sA w i x.toNatClampNeg v) b
  | .bastore => len = 1 ∧ ∃ v x i t, st = .int v :: .int x :: .ref i :: t ∧ wT w i = 21 ∧ vp_in x (wN w i) ∧ K (pc + 1) L t (sA w i x.toNatClampNeg (vp_nar .byte v)) b
  | .lastore => len = 1 ∧ ∃ v x i t, st = .long v :: .int x :: .ref i :: t ∧ wT w i = 22 ∧ vp_in x (wN w i) ∧ K (pc + 1) L t (sJ w i x.toNatClampNeg v) b
  | .newarray a => len = 2 ∧ ∃ n t, st = .int n :: t ∧ (a = .int ∨ a = .byte ∨ a = .long) ∧ ¬ n < 0 ∧ n.toNatClampNeg * 8 ≤ 536870912 ∧ 1 ≤ b.1 ∧ n.toNatClampNeg ≤ b.2 ∧ ∃ X, wT w X = 0 ∧ K (pc + 2) L (.ref X :: t) (nA w X (mat a) n.toNatClampNeg) (b.1 - 1, b.2 - n.toNatClampNeg)
  | .new n => len = 3 ∧ ∃ c, M.2.2.2.2.2 n = some c ∧ c < 13 ∧ 1 ≤ b.1 ∧ vnn c ≤ b.2 ∧ ∃ X, wT w X = 0 ∧ K (pc + 3) L (.ref X :: st) (nO w X (c + 1)) (b.1 - 1, b.2 - vnn c)
  | .invokestatic n => len = 3 ∧ ∃ ci as t, M.2.2.1 n = some ci ∧ ci.1 = 0 ∧ as.length = ci.2.1 ∧ st = as.reverse ++ t ∧ wsum t ≤ 8 ∧ ci.2.2.1 ≤ b.1 ∧ ci.2.2.2.1 ≤ b.2 ∧ ci.2.2.2.2 as w (fun o w1 => match o with
      | .inl v => K (pc + 3) L (v.toList ++ t) w1 (b.1 - ci.2.2.1, b.2 - ci.2.2.2.1)
      | .inr E => Q (.inr E) w1)
  | .invokevirtual n => len = 3 ∧ ∃ ci as t, M.2.2.1 n = some ci ∧ (∃ i r, as = .ref i :: r ∧ ci.1 = wT w i ∧ 1 ≤ ci.1 ∧ ci.1 ≤ 13) ∧ as.length = ci.2.1 ∧ st = as.reverse ++ t ∧ wsum t ≤ 8 ∧ ci.2.2.1 ≤ b.1 ∧ ci.2.2.2.1 ≤ b.2 ∧ ci.2.2.2.2 as w (fun o w1 => match o with
      | .inl v => K (pc + 3) L (v.toList ++ t) w1 (b.1 - ci.2.2.1, b.2 - ci.2.2.2.1)
      | .inr E => Q (.inr E) w1)
  | .invokespecial n => (len = 3 ∧ ∃ ci i t, M.2.2.1 n = some ci ∧ ci.1 = 99 ∧ st = .ref i :: t ∧ wsum t ≤ 8 ∧ K (pc + 3) L t w b) ∨ (len = 3 ∧ ∃ ci as t, M.2.2.1 n = some ci ∧ ci.1 = 100 ∧ (∃ i r, as = .ref i :: r) ∧ as.length = ci.2.1 ∧ st = as.reverse ++ t ∧ wsum t ≤ 8 ∧ ci.2.2.1 ≤ b.1 ∧ ci.2.2.2.1 ≤ b.2 ∧ ci.2.2.2.2 as w (fun o w1 => match o with
      | .inl v => K (pc + 3) L (v.toList ++ t) w1 (b.1 - ci.2.2.1, b.2 - ci.2.2.2.1)
      | .inr E => False))
  | .ireturn => len = 1 ∧ ∃ x ty, st = [.int x] ∧ S.2.2.1 = some ty ∧ narrow ty (.int x) = .int x ∧ Q (.inl (some (.int x))) w
  | .lreturn => len = 1 ∧ ∃ x, st = [.long x] ∧ S.2.2.1 = some .long ∧ Q (.inl (some (.long x))) w
  | .areturn => len = 1 ∧ ∃ r ty, st = [va_rf r] ∧ S.2.2.1 = some ty ∧ ((∃ n, ty = .object n) ∨ ∃ t, ty = .array t) ∧ Q (.inl (some (va_rf r))) w
  | .return_ => len = 1 ∧ st = [] ∧ S.2.2.1 = none ∧ Q (.inl none) w
  | _ => False
/-- the texts of the exceptions, and these: place of the class, of its constructor, its name -/
def msgs : List (Nat × String) := [(345, "an argument is none such"), (348, "no such work"), (125, "no such line"), (350, "no such room"), (356, "no such sheet or row"), (194, "there are 30 loans"), (352, "no such crate"), (289, "the hour would be above 200,000"), (365, "a bit tells no work")]
def excs : List (Nat × Nat × String) := [(343, 347, "java/lang/IllegalArgumentException"), (123, 127, "java/util/NoSuchElementException"), (354, 358, "java/lang/IndexOutOfBoundsException"), (192, 196, "java/lang/IllegalStateException")]
def kNm (k : Nat) : String := match k with
  | 0 => "CITIES"
  | 1 => "UNTIL"
  | 2 => "LIGHT"
  | 3 => "DAMP"
  | 4 => "REST"
  | _ => "APART"
/-- how long a row is: one of ours, or a constant's -/
def alR (w : AW) (i n : Nat) : Prop := ((wT w i = 20 ∨ wT w i = 21 ∨ wT w i = 22 ∨ wT w i = 23 ∨ wT w i = 24 ∨ (wT w i = 51 ∧ False)) ∧ n = wN w i) ∨ (wT w i = 50 ∧ ((i = 16 ∧ n = 6) ∨ (i = 17 ∧ n = 0) ∨ (30 ≤ i ∧ i < 36 ∧ n = (kByt (i - 30)).length)))
def isRcv (w : AW) (k i : Nat) : Prop := k = wT w i ∧ (k = 40 ∨ (k = 50 ∧ 20 ≤ i ∧ i < 26))
/-- the instructions that a program marks (10,000 more than its length): constants, rows of references, lists, natives, throws -/
def wpE (S : MS) (M : MT) (Q : AO → AW → Prop) (i : Instr) (len : Nat) (K : XP) : XP := fun pc L st w b => match i with
  | .getstatic n => len = 3 ∧ ∃ k, M.2.1 n = some (60, k) ∧ ((k = 99 ∧ K (pc + 3) L (.int 1 :: st) w b) ∨ (k = 19 ∧ K (pc + 3) L (.null :: st) w b ∧ wT w 19 = 50 ∧ K (pc + 3) L (.ref 19 :: st) w b) ∨ (¬ k = 99 ∧ ¬ k = 19 ∧ wT w k = 50 ∧ K (pc + 3) L (.ref k :: st) w b))
  | .getfield n => len = 3 ∧ ∃ k i t, M.2.1 n = some (61, k) ∧ st = .ref i :: t ∧ wT w i = 50 ∧ ((k = 2 ∧ 20 ≤ i ∧ i < 26 ∧ K (pc + 3) L (.int 0 :: t) w b) ∨ (k < 2 ∧ 10 + 10 * k ≤ i ∧ i < 16 + 10 * k ∧ wT w (i + 10) = 50 ∧ K (pc + 3) L (.ref (i + 10) :: t) w b))
  | .arraylength => len = 1 ∧ ∃ i t n, st = .ref i :: t ∧ alR w i n ∧ K (pc + 1) L (.int (Int32.ofNat n) :: t) w b
  | .iaload => len = 1 ∧ ∃ x i t, st = .int x :: .ref i :: t ∧ (wT w i = 51 ∧ False) ∧ vp_in x (wN w i) ∧ K (pc + 1) L (.int (wA w i x.toNatClampNeg) :: t) w b
  | .baload => len = 1 ∧ ∃ x i t, st = .int x :: .ref i :: t ∧ wT w i = 50 ∧ 30 ≤ i ∧ i < 36 ∧ vp_in x (kByt (i - 30)).length ∧ K (pc + 1) L (.int ((kByt (i - 30)).getD x.toNatClampNeg 0) :: t) w b
  | .aaload => len = 1 ∧ ∃ x i t, st = .int x :: .ref i :: t ∧ (((wT w i = 23 ∨ wT w i = 24) ∧ vp_in x (wN w i) ∧ K (pc + 1) L (va_rf (wP w i x.toNatClampNeg) :: t) w b) ∨ (wT w i = 50 ∧ i = 16 ∧ vp_in x 6 ∧ wT w (10 + x.toNatClampNeg) = 50 ∧ K (pc + 1) L (.ref (10 + x.toNatClampNeg) :: t) w b))
  | .aastore => len = 1 ∧ ∃ r x i t, st = va_rf r :: .int x :: .ref i :: t ∧ ((wT w i = 23 ∧ ∀ j, r = some j → 1 ≤ wT w j ∧ wT w j ≤ 13) ∨ (wT w i = 24 ∧ ∀ j, r = some j → wT w j = 7)) ∧ vp_in x (wN w i) ∧ K (pc + 1) L t (sP w i x.toNatClampNeg r) b
  | .anewarray n => len = 3 ∧ ∃ x t c, M.2.2.2.2.2 n = some c ∧ (c = 50 ∨ c = 51) ∧ st = .int x :: t ∧ ¬ x < 0 ∧ x.toNatClampNeg * 4 ≤ 536870912 ∧ 1 ≤ b.1 ∧ x.toNatClampNeg ≤ b.2 ∧ ∃ X, wT w X = 0 ∧ K (pc + 3) L (.ref X :: t) (nA w X (c - 27) x.toNatClampNeg) (b.1 - 1, b.2 - x.toNatClampNeg)
  | .checkcast n => len = 3 ∧ ∃ c i t, M.2.2.2.2.2 n = some c ∧ c < 13 ∧ st = .ref i :: t ∧ wT w i = c + 1 ∧ K (pc + 3) L (.ref i :: t) w b
  | .ldc n => len = 2 ∧ M.2.2.2.2.2 n = some 60 ∧ wT w 18 = 50 ∧ K (pc + 2) L (.ref 18 :: st) w b
  | .invokevirtual n => (len = 3 ∧ ∃ ci i t, M.2.2.1 n = some ci ∧ ci.1 = 98 ∧ st = .ref i :: t ∧ wT w i = 23 ∧ wT w 18 = 50 ∧ wsum t ≤ 8 ∧ K (pc + 3) L (.ref 18 :: t) w b) ∨ (len = 3 ∧ ∃ ci as t, M.2.2.1 n = some ci ∧ (∃ i r, as = .ref i :: r ∧ isRcv w ci.1 i) ∧ as.length = ci.2.1 ∧ st = as.reverse ++ t ∧ wsum t ≤ 8 ∧ ci.2.2.1 ≤ b.1 ∧ ci.2.2.2.1 ≤ b.2 ∧ ci.2.2.2.2 as w (fun o w1 => match o with
      | .inl v => K (pc + 3) L (v.toList ++ t) w1 (b.1 - ci.2.2.1, b.2 - ci.2.2.2.1)
      | .inr E => Q (.inr E) w1))
  | .invokestatic n => (len = 3 ∧ ∃ ci x y z s d t, M.2.2.1 n = some ci ∧ ci.1 = 97 ∧ st = .int z :: .int y :: .ref d :: .int x :: .ref s :: t ∧ wT w s = 23 ∧ wT w d = 23 ∧ ¬ x < 0 ∧ ¬ y < 0 ∧ ¬ z < 0 ∧ x.toNatClampNeg + z.toNatClampNeg ≤ wN w s ∧ y.toNatClampNeg + z.toNatClampNeg ≤ wN w d ∧ (∀ q j, wP w s q = some j → 1 ≤ wT w j ∧ wT w j ≤ 13) ∧ wsum t ≤ 8 ∧ K (pc + 3) L t (sQ w d (va_cpy (wP w s) (wP w d) x.toNatClampNeg y.toNatClampNeg z.toNatClampNeg)) b) ∨ (len = 3 ∧ ∃ ci x y t, M.2.2.1 n = some ci ∧ ci.1 = 94 ∧ st = .int y :: .int x :: t ∧ wsum t ≤ 8 ∧ K (pc + 3) L (.int (if x < y then y else x) :: t) w b) ∨ (len = 3 ∧ ∃ ci x y t, M.2.2.1 n = some ci ∧ ci.1 = 95 ∧ st = .int y :: .int x :: t ∧ wsum t ≤ 8 ∧ K (pc + 3) L (.int (if y < x then y else x) :: t) w b) ∨ (len = 3 ∧ ∃ ci x t, M.2.2.1 n = some ci ∧ ci.1 = 96 ∧ st = .int x :: t ∧ wsum t ≤ 8 ∧ K (pc + 3) L (.int (if 0 ≤ x then x else 0 - x) :: t) w b)
  | .invokespecial n => len = 3 ∧ ∃ ci as t, M.2.2.1 n = some ci ∧ ci.1 = 101 ∧ (∃ i r, as = .ref i :: r) ∧ as.length = ci.2.1 ∧ st = as.reverse ++ t ∧ wsum t ≤ 8 ∧ ci.2.2.1 ≤ b.1 ∧ ci.2.2.2.1 ≤ b.2 ∧ ci.2.2.2.2 as w (fun o w1 => match o with
      | .inl v => K (pc + 3) L (v.toList ++ t) w1 (b.1 - ci.2.2.1, b.2 - ci.2.2.2.1)
      | .inr E => False)
  | .new n => len = 3 ∧ S.1 = RX11 ∧ ∃ ic cls is tx, (n, ic, cls) ∈ excs ∧ (is, tx) ∈ msgs ∧ M.1 (pc + 3) = some (.dup, 1) ∧ ((M.1 (pc + 4) = some (.ldc is, 2) ∧ M.1 (pc + 6) = some (.invokespecial ic, 3) ∧ M.1 (pc + 9) = some (.athrow, 1)) ∨ (M.1 (pc + 4) = some (.ldc_w is, 3) ∧ M.1 (pc + 7) = some (.invokespecial ic, 3) ∧ M.1 (pc + 10) = some (.athrow, 1))) ∧ wsum st ≤ 8 ∧ 1 ≤ b.1 ∧ 6 ≤ b.2 ∧ Q (.inr cls) w
  | _ => False
def wp1 (S : MS) (M : MT) (Q : AO → AW → Prop) (K : XP) : XP := fun pc L st w b => match M.1 pc with
  | none => False
  | some (i, len) => if len < 10000 then wpS S M Q i len K pc L st w b else wpE S M Q i (len - 10000) K pc L st w b
def wp (S : MS) (M : MT) (Q : AO → AW → Prop) (cut : List Nat) (X : XP) : Nat → XP
  | 0 => fun _ _ _ _ _ => False
  | n + 1 => fun pc L st w b => if pc ∈ cut then X pc L st w b else wp1 S M Q (wp S M Q cut X n) pc L st w b
/-! ===== what stands fast of the constants, the rows of references and the classes ===== -/
/-- the words that a call's tables don't keep by themselves -/
def isNG (w : Cond) : Bool := match w with
  | .castable _ _ => true
  | .declares _ => true
  | .methodLinkNest _ _ _ _ => true
  | .fieldLinkNest _ _ _ _ _ _ => true
  | .arrayOver (.object _) => true
  | _ => false
def NGW : List Cond := tables_1.filter isNG
theorem NGW_in {w : Cond} (h : w ∈ tables_1) (g : isNG w = true) : w ∈ NGW := List.mem_filter.mpr ⟨h, g⟩
theorem ng_warm {w : Cond} (hg : isNG w = true) {s U : State} (hW : s.WarmedH U.vm) (h : va_Nw w s) : va_Nw w U := by
  unfold isNG at hg
  split at hg
  · exact h.warmC hW
  · exact h.warmD hW
  · exact h.warmM hW
  · exact h.warmF hW
  · exact va_AO.moved hW.alike h
  · cases hg
theorem ng_use {w : Cond} (hg : isNG w = true) {A : Array Value} {U : State} (h : va_Nw w U) : w.before A U = true := by
  unfold isNG at hg
  split at hg
  · exact va_Nw.use rfl h
  · exact va_Nw.use rfl h
  · exact va_Nw.use rfl h
  · exact va_Nw.use rfl h
  · exact va_AO.use h
  · cases hg
def oldA (E : AE) : Nat → Prop := fun q => E.2.2 ≤ q
def KY (E : AE) (U : State) (H : Heap) : Prop :=
  (ArrOfT U (E.1.1 50) (.object "java/lang/Object") ∧ va_RA U (E.1.1 50) (.object "java/lang/Object")) ∧
  (ArrOfT U (E.1.1 51) (.object RX6) ∧ va_RA U (E.1.1 51) (.object RX6)) ∧
  (∀ w ∈ NGW, va_Nw w U) ∧
  va_Mi "[Ljava/lang/Object;" (E.1.2 60 18) U ∧
  (∀ k, k < 6 → va_Z RX4 (kNm k) "LTravellingPictures$Kind;" (.ref (E.1.2 60 (10 + k))) (fun q => E.2.2 ≤ q) U H ∧ va_OF RX4 "word" "Ljava/lang/String;" (.ref (E.1.2 60 (20 + k))) (E.1.2 60 (10 + k)) (fun q => E.2.2 ≤ q) U H) ∧
  (∀ i j, i < 6 → j < 6 → E.1.2 60 (10 + i) = E.1.2 60 (10 + j) → i = j) ∧
  vk_S 6 [6, 5, 5, 4, 4, 5] [kByt 0, kByt 1, kByt 2, kByt 3, kByt 4, kByt 5] (fun k => E.1.2 60 (20 + k)) (fun k => E.1.2 60 (30 + k)) (fun q => E.2.2 ≤ q) U H ∧
  (va_Z RX11 "KINDS" "[LTravellingPictures$Kind;" (.ref (E.1.2 60 16)) (fun q => E.2.2 ≤ q) U H ∧ va_T (.object RX4) (E.1.2 60 16) 6 (fun j => .ref (E.1.2 60 (10 + j))) (fun q => E.2.2 ≤ q) U H) ∧
  (va_Z RJx4a65c "DEFAULTCAPACITY_EMPTY_ELEMENTDATA" "[Ljava/lang/Object;" (.ref (E.1.2 60 17)) (fun q => E.2.2 ≤ q) U H ∧ va_T (.object "java/lang/Object") (E.1.2 60 17) 0 (fun _ => .null) (fun q => E.2.2 ≤ q) U H) ∧
  va_Z "java/lang/String" "COMPACT_STRINGS" "Z" (.int 1) (fun q => E.2.2 ≤ q) U H ∧
  (vx_Zq Bundle.tN "UNASSIGNED_STACK" Bundle.steD (fun q => E.2.2 ≤ q) U H ∧ vx_Zq Bundle.tN "SUPPRESSED_SENTINEL" Bundle.listD (fun q => E.2.2 ≤ q) U H) ∧
  (∀ q ∈ msgs, ∃ sa, vk_R RX11 q.1 q.2 sa U) ∧
  (va_Z RJ3 "SIOOBE_FORMATTER" "Ljava/util/function/BiFunction;" .null (fun q => E.2.2 ≤ q) U H ∨ va_Z RJ3 "SIOOBE_FORMATTER" "Ljava/util/function/BiFunction;" (.ref (E.1.2 60 19)) (fun q => E.2.2 ≤ q) U H)
theorem KY.warm {E : AE} {s U : State} {H : Heap} (hW : s.WarmedH U.vm) (h : KY E s H) : KY E U H := by
  obtain ⟨⟨a1, a2⟩, ⟨b1, b2⟩, c, d, e, f, g, ⟨h1, h2⟩, ⟨i1, i2⟩, j, ⟨k1, k2⟩, m, n⟩ := h
  have hv := hW.alike
  exact ⟨⟨arrOfT_moved hv a1, va_RA.moved hv a2⟩, ⟨arrOfT_moved hv b1, va_RA.moved hv b2⟩, fun w hw => ng_warm (List.mem_filter.mp hw).2 hW (c w hw), va_Mi.moved hv d, fun k hk => ⟨va_Z.moved hv (e k hk).1, va_OF.moved hv (e k hk).2⟩, f, vk_S.moved hv g, ⟨va_Z.moved hv h1, va_T.moved hv h2⟩, ⟨va_Z.moved hv i1, va_T.moved hv i2⟩, va_Z.moved hv j, ⟨vx_Zq.moved hv k1, vx_Zq.moved hv k2⟩, fun q hq => (m q hq).elim (fun sa z => ⟨sa, vk_R.warm hW z⟩), n.imp (va_Z.moved hv) (va_Z.moved hv)⟩
theorem KY.kept {E : AE} {U : State} {H H1 : Heap} (h : KY E U H) (hq : ∀ a : Nat, a < H.size → ¬ E.2.2 ≤ a → H1[a]? = H[a]?) : KY E U H1 := by
  obtain ⟨a, b, c, d, e, f, g, ⟨h1, h2⟩, ⟨i1, i2⟩, j, ⟨k1, k2⟩, m, n⟩ := h
  exact ⟨a, b, c, d, fun k hk => ⟨(e k hk).1.kept hq, (e k hk).2.kept hq⟩, f, g.kept hq, ⟨h1.kept hq, h2.kept hq⟩, ⟨i1.kept hq, i2.kept hq⟩, j.kept hq, ⟨k1.kept hq, k2.kept hq⟩, m, n.imp (fun z => z.kept hq) (fun z => z.kept hq)⟩
/-! ===== a method's contract over abstract worlds ===== -/
def mPc (E : AE) (ad : AM) (w : AW) (as : List Value) : Array Value → State → Prop := fun v U => v = (as.map (cv ad)).toArray ∧ Conc E ad w U.heap ∧ KK E U ∧ E.2.2 ≤ U.heap.size ∧ KY E U U.heap
def mExt (ad : AM) (w : AW) (ad1 : AM) (w1 : AW) : Prop := ∀ i, wT w i ≠ 0 → wT w1 i ≠ 0 ∧ ad1.1 i = ad.1 i
def mQc (E : AE) (ad : AM) (w : AW) (Q : AO → AW → Prop) : Array Value → State → Outcome → State → Prop := fun _ st o t => ∃ (r : Option Value) (w1 : AW) (ad1 : AM), o = .returned (r.map (cv ad1)) ∧ Q (.inl r) w1 ∧ Conc E ad1 w1 t.heap ∧ mExt ad w ad1 w1 ∧ (∀ v, r = some v → lvv w1 v) ∧ va_F (fun q => E.2.2 ≤ q) st t
def mXc (E : AE) (ad : AM) (w : AW) (Q : AO → AW → Prop) : String → State → State → Prop := fun C st t => ∃ (w1 : AW) (ad1 : AM), Q (.inr C) w1 ∧ Conc E ad1 w1 t.heap ∧ mExt ad w ad1 w1 ∧ va_F (fun q => E.2.2 ≤ q) st t
def MA (l : Launch) (E : AE) (y : MethodName) (cc : ByteArray) (maxL : Nat) (ret : Option FieldType) (fr lo mc ms : Nat) (as : List Value) (w : AW) (Q : AO → AW → Prop) : Prop :=
  l.stackTraces = false → ∀ ad : AM, (∀ v ∈ as, lvv w v) → vx_Met l y (.code y cc maxL ret :: TBL) { frames := fr, cells := mc, slots := ms, locals := lo } (mPc E ad w as) (mQc E ad w Q) (mXc E ad w Q) mc ms (fun q => E.2.2 ≤ q)
theorem mPc_blind (E : AE) (ad : AM) (w : AW) (as : List Value) : FrameBlind (mPc E ad w as) := fun a U g mk h => ⟨h.1, h.2.1, KK.moved (u := U) (U := U.calling g mk a) (Vm.Alike.refl U.vm) h.2.2.1, h.2.2.2.1, KY.warm (s := U) (U := U.calling g mk a) (State.WarmedH.refl U) h.2.2.2.2⟩
/-- what a call's tables must hold -/
def CV (l : Launch) (R : Room) (E : AE) (own : String) (idx : Nat) (ci : CI) : Prop :=
  (ci.1 = 99 → Cond.methodLink own idx Lib.objectInit ∈ TBL ∧ 1 ≤ R.frames ∧ 20 ≤ R.locals) ∧
  (ci.1 = 98 → Cond.methodLink own idx ⟨"java/lang/Object", "getClass", "()Ljava/lang/Class;"⟩ ∈ TBL ∧ 1 ≤ R.frames ∧ 22 ≤ R.locals) ∧
  (ci.1 = 97 → Cond.methodLink own idx arraycopyName ∈ TBL ∧ 1 ≤ R.frames ∧ 8 + (nativeFrameWords "java/lang/System" "arraycopy" 5 + 11) ≤ R.locals) ∧
  (ci.1 = 94 → Cond.methodLink own idx Lib.Math.max.name ∈ TBL ∧ 1 ≤ R.frames ∧ 21 ≤ R.locals) ∧
  (ci.1 = 95 → Cond.methodLink own idx Lib.Math.min.name ∈ TBL ∧ 1 ≤ R.frames ∧ 21 ≤ R.locals) ∧
  (ci.1 = 96 → Cond.methodLink own idx Lib.Math.abs.name ∈ TBL ∧ 1 ≤ R.frames ∧ 21 ≤ R.locals) ∧
  (ci.1 ≤ 60 ∨ 100 ≤ ci.1 → ∃ (y : MethodName) (cc : ByteArray) (maxL : Nat) (ret : Option FieldType) (fr lo n : Nat), (∀ as w Q, ci.2.2.2.2 as w Q → MA l E y cc maxL ret fr lo ci.2.2.1 ci.2.2.2.1 as w Q) ∧ fr + 1 ≤ R.frames ∧ 8 + (maxL + 11) + lo ≤ R.locals ∧
    Cond.code y cc maxL ret ∈ TBL ∧ Cond.initialized y.cls ∈ TBL ∧ (ci.1 ≠ 101 → Cond.methodLink own idx y ∈ TBL) ∧ (y.cls ≠ "java/lang/invoke/MethodHandle" ∧ y.cls ≠ "java/lang/invoke/VarHandle" ∧ (parseMethodDescriptor y.desc).map (fun d => d.parameters.length) = some n) ∧
    (ci.1 = 0 → Cond.static y ∈ TBL ∧ ci.2.1 = n) ∧
    (1 ≤ ci.1 → ci.1 ≤ 50 → Cond.instanceMethod y ∈ TBL ∧ Cond.selects y.cls y y ∈ TBL ∧ y.cls = (if ci.1 = 50 then "java/lang/String" else if ci.1 = 40 then vRn 0 else vRn (ci.1 - 1)) ∧ ci.2.1 = n + 1) ∧
    (ci.1 = 100 ∨ ci.1 = 101 → y.name = "<init>" ∧ Cond.instanceMethod y ∈ TBL ∧ ret = none ∧ ci.2.1 = n + 1) ∧ (ci.1 = 101 → Cond.methodLinkNest own idx y RX11 ∈ NGW))
def MV (l : Launch) (R : Room) (E : AE) (own : String) (cc : ByteArray) (M : MT) : Prop :=
  (∀ pc i len, M.1 pc = some (i, len) → decode cc pc = .ok (i, len % 10000)) ∧
  (∀ idx c k, M.2.1 idx = some (c, k) → (c < 13 → k < vnn c ∧ ∃ ref, Cond.fieldLink own idx ref (vTb c k).2.1 (vTb c k).2.2.1 ∈ TBL ∧ (ref = (vTb c k).1 ∨ Cond.sameField ref (vTb c k).1 (vTb c k).2.1 (vTb c k).2.2.1 ∈ TBL)) ∧
    (c = 60 → (10 ≤ k ∧ k < 16 ∧ Cond.fieldLink own idx RX4 (kNm (k - 10)) "LTravellingPictures$Kind;" ∈ TBL) ∨ (k = 16 ∧ Cond.fieldLinkNest own idx RX11 "KINDS" "[LTravellingPictures$Kind;" RX11 ∈ NGW) ∨ (k = 17 ∧ Cond.fieldLink own idx RJx4a65c "DEFAULTCAPACITY_EMPTY_ELEMENTDATA" "[Ljava/lang/Object;" ∈ TBL) ∨ (k = 99 ∧ Cond.fieldLink own idx "java/lang/String" "COMPACT_STRINGS" "Z" ∈ TBL) ∨ (k = 19 ∧ Cond.fieldLink own idx RJ3 "SIOOBE_FORMATTER" "Ljava/util/function/BiFunction;" ∈ TBL)) ∧
    (c = 61 → (k = 0 ∧ Cond.fieldLink own idx RX4 "word" "Ljava/lang/String;" ∈ TBL) ∨ (k = 1 ∧ Cond.fieldLink own idx "java/lang/String" "value" "[B" ∈ TBL) ∨ (k = 2 ∧ Cond.fieldLink own idx "java/lang/String" "coder" "B" ∈ TBL))) ∧
  (∀ idx ci, M.2.2.1 idx = some ci → CV l R E own idx ci) ∧
  (∀ idx v, M.2.2.2.1 idx = some v → Cond.constant own idx v ∈ TBL) ∧
  (∀ idx v, M.2.2.2.2.1 idx = some v → Cond.constantLong own idx v ∈ TBL) ∧
  (∀ idx c, M.2.2.2.2.2 idx = some c → (c < 13 → Cond.classLink own idx (vRn c) ∈ TBL ∧ Cond.instantiable (vRn c) (vnn c) ∈ TBL ∧ Cond.initialized (vRn c) ∈ TBL) ∧ (c = 50 → Cond.classLink own idx "java/lang/Object" ∈ TBL) ∧ (c = 51 → Cond.classLink own idx RX6 ∈ TBL) ∧ (c = 60 → Cond.classLink own idx "[Ljava/lang/Object;" ∈ TBL)) ∧
  (∀ pc n, M.1 pc = some (.new n, 10003) → 6 ≤ R.frames ∧ 90 ≤ R.locals)
