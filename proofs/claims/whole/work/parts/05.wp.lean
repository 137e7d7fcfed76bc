/-! ===== WHAT IS OWED AT EACH INSTRUCTION, over abstract worlds ===== -/
def TBL : List Cond := lw_tbl.filter goodWord
theorem TBL_good {w : Cond} (h : w ∈ TBL) : (w.onTables && w.keeps) = true ∨ ∃ ty, w = .arrayClass ty := good_of_word (List.mem_filter.mp h).2
theorem TBL_in {w : Cond} (h : w ∈ lw_tbl) (g : goodWord w = true) : w ∈ TBL := List.mem_filter.mpr ⟨h, g⟩
theorem TBL_tb {w : Cond} (h : w ∈ tables_1) (g : goodWord w = true) : w ∈ TBL := TBL_in (List.mem_append_right _ h) g
/-- how a call ends: returned, or thrown by the name of its class -/
abbrev AO : Type := Option Value ⊕ String
abbrev CSp : Type := List Value → AW → (AO → AW → Prop) → Prop
/-- a call: kind (0 static, 1 to 13 the receiver's class, 99 Object's constructor, 100 a constructor), how many values it takes, its cells and slots, what it owes -/
abbrev CI : Type := Nat × Nat × Nat × Nat × CSp
/-- program, fields, calls, int constants, long constants, classes of 'new' -/
abbrev MT : Type := (Nat → Option (Instr × Nat)) × (Nat → Option (Nat × Nat)) × (Nat → Option CI) × (Nat → Option Int32) × (Nat → Option Int64) × (Nat → Option Nat)
/-- own name, locals, returned type, is it a constructor -/
abbrev MS : Type := String × Nat × Option FieldType × Bool
abbrev XP : Type := Nat → AL → List Value → AW → Nat × Nat → Prop
def gv (w : AW) (c k i : Nat) : Value := if isRf (vty c k) then va_rf (wR w (64 * c + k) i) else .int (wI w (64 * c + k) i)
def wsum (st : List Value) : Nat := (st.map fun v => v.category).sum
def mat (t : ArrayType) : Nat := match t with
  | .int => 20
  | .byte => 21
  | .long => 22
  | _ => 0
def wpS (S : MS) (M : MT) (Q : AO → AW → Prop) (i : Instr) (len : Nat) (K : XP) : XP := fun pc L st w b => match i with
  | .aconst_null => len = 1 ∧ K (pc + 1) L (.null :: st) w b
  | .iconst n => len = 1 ∧ K (pc + 1) L (.int (Int32.ofInt n) :: st) w b
  | .bipush n => len = 2 ∧ K (pc + 2) L (.int (Int8.ofInt n).toInt32 :: st) w b
  | .sipush n => len = 3 ∧ K (pc + 3) L (.int (Int16.ofInt n).toInt32 :: st) w b
  | .lconst n => len = 1 ∧ K (pc + 1) L (.long (Int64.ofNat (n : Nat)) :: st) w b
  | .iload n => len = 2 ∧ ∃ x, L n = some (.int x) ∧ K (pc + 2) L (.int x :: st) w b
  | .iload_n n => len = 1 ∧ ∃ x, L (n : Nat) = some (.int x) ∧ K (pc + 1) L (.int x :: st) w b
  | .lload n => len = 2 ∧ ∃ x, L n = some (.long x) ∧ K (pc + 2) L (.long x :: st) w b
  | .lload_n n => len = 1 ∧ ∃ x, L (n : Nat) = some (.long x) ∧ K (pc + 1) L (.long x :: st) w b
  | .aload n => len = 2 ∧ ∃ r, L n = some (va_rf r) ∧ K (pc + 2) L (va_rf r :: st) w b
  | .aload_n n => len = 1 ∧ ∃ r, L (n : Nat) = some (va_rf r) ∧ K (pc + 1) L (va_rf r :: st) w b
  | .istore n => len = 2 ∧ ∃ x t, st = .int x :: t ∧ n < S.2.1 ∧ K (pc + 2) (ls1 L n (.int x)) t w b
  | .istore_n n => len = 1 ∧ ∃ x t, st = .int x :: t ∧ (n : Nat) < S.2.1 ∧ K (pc + 1) (ls1 L n (.int x)) t w b
  | .lstore n => len = 2 ∧ ∃ x t, st = .long x :: t ∧ n + 1 < S.2.1 ∧ K (pc + 2) (ls2 L n (.long x)) t w b
  | .lstore_n n => len = 1 ∧ ∃ x t, st = .long x :: t ∧ (n : Nat) + 1 < S.2.1 ∧ K (pc + 1) (ls2 L n (.long x)) t w b
  | .astore n => len = 2 ∧ ∃ r t, st = va_rf r :: t ∧ n < S.2.1 ∧ K (pc + 2) (ls1 L n (va_rf r)) t w b
  | .astore_n n => len = 1 ∧ ∃ r t, st = va_rf r :: t ∧ (n : Nat) < S.2.1 ∧ K (pc + 1) (ls1 L n (va_rf r)) t w b
  | .iinc n d => len = 3 ∧ ∃ x, L n = some (.int x) ∧ n < S.2.1 ∧ K (pc + 3) (ls1 L n (.int (x + Int32.ofInt d))) st w b
  | .iadd => len = 1 ∧ ∃ x y t, st = .int y :: .int x :: t ∧ K (pc + 1) L (.int (x + y) :: t) w b
  | .isub => len = 1 ∧ ∃ x y t, st = .int y :: .int x :: t ∧ K (pc + 1) L (.int (x - y) :: t) w b
  | .imul => len = 1 ∧ ∃ x y t, st = .int y :: .int x :: t ∧ K (pc + 1) L (.int (x * y) :: t) w b
  | .iand => len = 1 ∧ ∃ x y t, st = .int y :: .int x :: t ∧ K (pc + 1) L (.int (x &&& y) :: t) w b
  | .ior => len = 1 ∧ ∃ x y t, st = .int y :: .int x :: t ∧ K (pc + 1) L (.int (x ||| y) :: t) w b
  | .ixor => len = 1 ∧ ∃ x y t, st = .int y :: .int x :: t ∧ K (pc + 1) L (.int (x ^^^ y) :: t) w b
  | .ishl => len = 1 ∧ ∃ x y t, st = .int y :: .int x :: t ∧ K (pc + 1) L (.int (x <<< (y &&& 31)) :: t) w b
  | .ishr => len = 1 ∧ ∃ x y t, st = .int y :: .int x :: t ∧ K (pc + 1) L (.int (x >>> (y &&& 31)) :: t) w b
  | .iushr => len = 1 ∧ ∃ x y t, st = .int y :: .int x :: t ∧ K (pc + 1) L (.int ((x.toUInt32 >>> (y.toUInt32 &&& Int32.toUInt32 31)).toInt32) :: t) w b
  | .idiv => len = 1 ∧ ∃ x y t, st = .int y :: .int x :: t ∧ ¬ y = 0 ∧ K (pc + 1) L (.int (x / y) :: t) w b
  | .irem => len = 1 ∧ ∃ x y t, st = .int y :: .int x :: t ∧ ¬ y = 0 ∧ K (pc + 1) L (.int (x - x / y * y) :: t) w b
  | .ineg => len = 1 ∧ ∃ x t, st = .int x :: t ∧ K (pc + 1) L (.int (-x) :: t) w b
  | .ladd => len = 1 ∧ ∃ x y t, st = .long y :: .long x :: t ∧ K (pc + 1) L (.long (x + y) :: t) w b
  | .lsub => len = 1 ∧ ∃ x y t, st = .long y :: .long x :: t ∧ K (pc + 1) L (.long (x - y) :: t) w b
  | .lor => len = 1 ∧ ∃ x y t, st = .long y :: .long x :: t ∧ K (pc + 1) L (.long (x ||| y) :: t) w b
  | .land => len = 1 ∧ ∃ x y t, st = .long y :: .long x :: t ∧ K (pc + 1) L (.long (x &&& y) :: t) w b
  | .lneg => len = 1 ∧ ∃ x t, st = .long x :: t ∧ K (pc + 1) L (.long (-x) :: t) w b
  | .lshl => len = 1 ∧ ∃ (x : Int64) (y : Int32) (t : List Value), st = .int y :: .long x :: t ∧ K (pc + 1) L (.long (x <<< (y.toInt64 &&& 63)) :: t) w b
  | .lshr => len = 1 ∧ ∃ (x : Int64) (y : Int32) (t : List Value), st = .int y :: .long x :: t ∧ K (pc + 1) L (.long (x >>> (y.toInt64 &&& 63)) :: t) w b
  | .lcmp => len = 1 ∧ ∃ x y t, st = .long y :: .long x :: t ∧ K (pc + 1) L (.int (lg_cmp x y) :: t) w b
  | .i2l => len = 1 ∧ ∃ x t, st = .int x :: t ∧ K (pc + 1) L (.long x.toInt64 :: t) w b
  | .l2i => len = 1 ∧ ∃ x t, st = .long x :: t ∧ K (pc + 1) L (.int x.toInt32 :: t) w b
  | .i2b => len = 1 ∧ ∃ x t, st = .int x :: t ∧ K (pc + 1) L (.int x.toInt8.toInt32 :: t) w b
  | .dup => len = 1 ∧ ∃ v t, st = v :: t ∧ v.category = 1 ∧ K (pc + 1) L (v :: v :: t) w b
  | .pop => len = 1 ∧ ∃ v t, st = v :: t ∧ v.category = 1 ∧ K (pc + 1) L t w b
  | .dup2 => len = 1 ∧ ∃ u v t, st = u :: v :: t ∧ u.category = 1 ∧ v.category = 1 ∧ K (pc + 1) L (u :: v :: u :: v :: t) w b
  | .dup_x1 => len = 1 ∧ ∃ u v t, st = u :: v :: t ∧ u.category = 1 ∧ v.category = 1 ∧ K (pc + 1) L (u :: v :: u :: t) w b
  | .goto d => len = 3 ∧ ∃ g : Nat, (pc : Int) + d = (g : Int) ∧ K g L st w b
  | .if_icmp .eq d => len = 3 ∧ ∃ (g : Nat) (x y : Int32) (t : List Value), (pc : Int) + d = (g : Int) ∧ st = .int y :: .int x :: t ∧ (x = y → K g L t w b) ∧ (¬ x = y → K (pc + 3) L t w b)
  | .if_icmp .ne d => len = 3 ∧ ∃ (g : Nat) (x y : Int32) (t : List Value), (pc : Int) + d = (g : Int) ∧ st = .int y :: .int x :: t ∧ (¬ x = y → K g L t w b) ∧ (x = y → K (pc + 3) L t w b)
  | .if_icmp .lt d => len = 3 ∧ ∃ (g : Nat) (x y : Int32) (t : List Value), (pc : Int) + d = (g : Int) ∧ st = .int y :: .int x :: t ∧ (x < y → K g L t w b) ∧ (¬ x < y → K (pc + 3) L t w b)
  | .if_icmp .ge d => len = 3 ∧ ∃ (g : Nat) (x y : Int32) (t : List Value), (pc : Int) + d = (g : Int) ∧ st = .int y :: .int x :: t ∧ (y ≤ x → K g L t w b) ∧ (¬ y ≤ x → K (pc + 3) L t w b)
  | .if_icmp .gt d => len = 3 ∧ ∃ (g : Nat) (x y : Int32) (t : List Value), (pc : Int) + d = (g : Int) ∧ st = .int y :: .int x :: t ∧ (y < x → K g L t w b) ∧ (¬ y < x → K (pc + 3) L t w b)
  | .if_icmp .le d => len = 3 ∧ ∃ (g : Nat) (x y : Int32) (t : List Value), (pc : Int) + d = (g : Int) ∧ st = .int y :: .int x :: t ∧ (x ≤ y → K g L t w b) ∧ (¬ x ≤ y → K (pc + 3) L t w b)
  | .ifCond .eq d => len = 3 ∧ ∃ (g : Nat) (x : Int32) (t : List Value), (pc : Int) + d = (g : Int) ∧ st = .int x :: t ∧ (x = 0 → K g L t w b) ∧ (¬ x = 0 → K (pc + 3) L t w b)
  | .ifCond .ne d => len = 3 ∧ ∃ (g : Nat) (x : Int32) (t : List Value), (pc : Int) + d = (g : Int) ∧ st = .int x :: t ∧ (¬ x = 0 → K g L t w b) ∧ (x = 0 → K (pc + 3) L t w b)
  | .ifCond .lt d => len = 3 ∧ ∃ (g : Nat) (x : Int32) (t : List Value), (pc : Int) + d = (g : Int) ∧ st = .int x :: t ∧ (x < 0 → K g L t w b) ∧ (¬ x < 0 → K (pc + 3) L t w b)
  | .ifCond .ge d => len = 3 ∧ ∃ (g : Nat) (x : Int32) (t : List Value), (pc : Int) + d = (g : Int) ∧ st = .int x :: t ∧ (0 ≤ x → K g L t w b) ∧ (¬ 0 ≤ x → K (pc + 3) L t w b)
  | .ifCond .gt d => len = 3 ∧ ∃ (g : Nat) (x : Int32) (t : List Value), (pc : Int) + d = (g : Int) ∧ st = .int x :: t ∧ (0 < x → K g L t w b) ∧ (¬ 0 < x → K (pc + 3) L t w b)
  | .ifCond .le d => len = 3 ∧ ∃ (g : Nat) (x : Int32) (t : List Value), (pc : Int) + d = (g : Int) ∧ st = .int x :: t ∧ (x ≤ 0 → K g L t w b) ∧ (¬ x ≤ 0 → K (pc + 3) L t w b)
  | .if_acmp .eq d => len = 3 ∧ ∃ (g : Nat) (x y : Option Nat) (t : List Value), (pc : Int) + d = (g : Int) ∧ st = va_rf y :: va_rf x :: t ∧ (x = y → K g L t w b) ∧ (¬ x = y → K (pc + 3) L t w b)
  | .if_acmp .ne d => len = 3 ∧ ∃ (g : Nat) (x y : Option Nat) (t : List Value), (pc : Int) + d = (g : Int) ∧ st = va_rf y :: va_rf x :: t ∧ (¬ x = y → K g L t w b) ∧ (x = y → K (pc + 3) L t w b)
  | .ifnull d => len = 3 ∧ ∃ (g : Nat) (x : Option Nat) (t : List Value), (pc : Int) + d = (g : Int) ∧ st = va_rf x :: t ∧ (x = none → K g L t w b) ∧ (¬ x = none → K (pc + 3) L t w b)
  | .ifnonnull d => len = 3 ∧ ∃ (g : Nat) (x : Option Nat) (t : List Value), (pc : Int) + d = (g : Int) ∧ st = va_rf x :: t ∧ (¬ x = none → K g L t w b) ∧ (x = none → K (pc + 3) L t w b)
  | .tableswitch df lo hi offs => ∃ (x : Int32) (t : List Value), st = .int x :: t ∧ ((x.toInt < lo ∨ hi < x.toInt) → ∃ g : Nat, (pc : Int) + df = (g : Int) ∧ K g L t w b) ∧ (¬ x.toInt < lo → ¬ hi < x.toInt → ∃ (o : Int) (g : Nat), offs[(x.toInt - lo).toNat]? = some o ∧ (pc : Int) + o = (g : Int) ∧ K g L t w b)
  | .ldc n => len = 2 ∧ ∃ v, M.2.2.2.1 n = some v ∧ K (pc + 2) L (.int v :: st) w b
  | .ldc_w n => len = 3 ∧ ∃ v, M.2.2.2.1 n = some v ∧ K (pc + 3) L (.int v :: st) w b
  | .ldc2_w n => len = 3 ∧ ∃ v, M.2.2.2.2.1 n = some v ∧ K (pc + 3) L (.long v :: st) w b
  | .getfield n => len = 3 ∧ ∃ c k i t, M.2.1 n = some (c, k) ∧ st = .ref i :: t ∧ wT w i = c + 1 ∧ K (pc + 3) L (gv w c k i :: t) w b
  | .putfield n => len = 3 ∧ ∃ c k i v t, M.2.1 n = some (c, k) ∧ st = v :: .ref i :: t ∧ wT w i = c + 1 ∧ ((vTb c k).2.2.2 = false ∨ (S.2.2.2 = true ∧ (vTb c k).1 = S.1)) ∧ ((isRf (vty c k) = true ∧ ∃ r, v = va_rf r ∧ K (pc + 3) L t (sR w (64 * c + k) i r) b) ∨ (isRf (vty c k) = false ∧ ∃ x, v = .int x ∧ K (pc + 3) L t (sI w (64 * c + k) i x) b))
  | .arraylength => len = 1 ∧ ∃ i t, st = .ref i :: t ∧ (wT w i = 20 ∨ wT w i = 21 ∨ wT w i = 22) ∧ K (pc + 1) L (.int (Int32.ofNat (wN w i)) :: t) w b
  | .iaload => len = 1 ∧ ∃ x i t, st = .int x :: .ref i :: t ∧ wT w i = 20 ∧ vp_in x (wN w i) ∧ K (pc + 1) L (.int (wA w i x.toNatClampNeg) :: t) w b
  | .baload => len = 1 ∧ ∃ x i t, st = .int x :: .ref i :: t ∧ wT w i = 21 ∧ vp_in x (wN w i) ∧ K (pc + 1) L (.int (wA w i x.toNatClampNeg) :: t) w b
  | .laload => len = 1 ∧ ∃ x i t, st = .int x :: .ref i :: t ∧ wT w i = 22 ∧ vp_in x (wN w i) ∧ K (pc + 1) L (.long (wJ w i x.toNatClampNeg) :: t) w b
  | .iastore => len = 1 ∧ ∃ v x i t, st = .int v :: .int x :: .ref i :: t ∧ wT w i = 20 ∧ vp_in x (wN w i) ∧ K (pc + 1) L t (sA w i x.toNatClampNeg v) b
  | .bastore => len = 1 ∧ ∃ v x i t, st = .int v :: .int x :: .ref i :: t ∧ wT w i = 21 ∧ vp_in x (wN w i) ∧ K (pc + 1) L t (sA w i x.toNatClampNeg (vp_nar .byte v)) b
  | .lastore => len = 1 ∧ ∃ v x i t, st = .long v :: .int x :: .ref i :: t ∧ wT w i = 22 ∧ vp_in x (wN w i) ∧ K (pc + 1) L t (sJ w i x.toNatClampNeg v) b
  | .newarray a => len = 2 ∧ ∃ n t, st = .int n :: t ∧ (a = .int ∨ a = .byte ∨ a = .long) ∧ ¬ n < 0 ∧ n.toNatClampNeg * 8 ≤ 536870912 ∧ 1 ≤ b.1 ∧ n.toNatClampNeg ≤ b.2 ∧ ∃ X, wT w X = 0 ∧ K (pc + 2) L (.ref X :: t) (nA w X (mat a) n.toNatClampNeg) (b.1 - 1, b.2 - n.toNatClampNeg)
  | .new n => len = 3 ∧ ∃ c, M.2.2.2.2.2 n = some c ∧ 1 ≤ b.1 ∧ vnn c ≤ b.2 ∧ ∃ X, wT w X = 0 ∧ K (pc + 3) L (.ref X :: st) (nO w X (c + 1)) (b.1 - 1, b.2 - vnn c)
  | .invokestatic n => len = 3 ∧ ∃ ci as t, M.2.2.1 n = some ci ∧ ci.1 = 0 ∧ as.length = ci.2.1 ∧ st = as.reverse ++ t ∧ wsum t ≤ 8 ∧ ci.2.2.1 ≤ b.1 ∧ ci.2.2.2.1 ≤ b.2 ∧ ci.2.2.2.2 as w (fun o w1 => match o with
      | .inl v => K (pc + 3) L (v.toList ++ t) w1 (b.1 - ci.2.2.1, b.2 - ci.2.2.2.1)
      | .inr E => Q (.inr E) w1)
  | .invokevirtual n => len = 3 ∧ ∃ ci as t, M.2.2.1 n = some ci ∧ (∃ i r, as = .ref i :: r ∧ ci.1 = wT w i ∧ 1 ≤ ci.1 ∧ ci.1 ≤ 13) ∧ as.length = ci.2.1 ∧ st = as.reverse ++ t ∧ wsum t ≤ 8 ∧ ci.2.2.1 ≤ b.1 ∧ ci.2.2.2.1 ≤ b.2 ∧ ci.2.2.2.2 as w (fun o w1 => match o with
      | .inl v => K (pc + 3) L (v.toList ++ t) w1 (b.1 - ci.2.2.1, b.2 - ci.2.2.2.1)
      | .inr E => Q (.inr E) w1)
  | .invokespecial n => (len = 3 ∧ ∃ ci i t, M.2.2.1 n = some ci ∧ ci.1 = 99 ∧ st = .ref i :: t ∧ wsum t ≤ 8 ∧ K (pc + 3) L t w b) ∨ (len = 3 ∧ ∃ ci as t, M.2.2.1 n = some ci ∧ ci.1 = 100 ∧ (∃ i r, as = .ref i :: r) ∧ as.length = ci.2.1 ∧ st = as.reverse ++ t ∧ wsum t ≤ 8 ∧ ci.2.2.1 ≤ b.1 ∧ ci.2.2.2.1 ≤ b.2 ∧ ci.2.2.2.2 as w (fun o w1 => match o with
      | .inl v => K (pc + 3) L (v.toList ++ t) w1 (b.1 - ci.2.2.1, b.2 - ci.2.2.2.1)
      | .inr E => False))
  | .ireturn => len = 1 ∧ ∃ x ty, st = [.int x] ∧ S.2.2.1 = some ty ∧ narrow ty (.int x) = .int x ∧ Q (.inl (some (.int x))) w
  | .lreturn => len = 1 ∧ ∃ x, st = [.long x] ∧ S.2.2.1 = some .long ∧ Q (.inl (some (.long x))) w
  | .areturn => len = 1 ∧ ∃ r ty, st = [va_rf r] ∧ S.2.2.1 = some ty ∧ ((∃ n, ty = .object n) ∨ ∃ t, ty = .array t) ∧ Q (.inl (some (va_rf r))) w
  | .return_ => len = 1 ∧ st = [] ∧ S.2.2.1 = none ∧ Q (.inl none) w
  | _ => False
def wp1 (S : MS) (M : MT) (Q : AO → AW → Prop) (K : XP) : XP := fun pc L st w b => match M.1 pc with
  | none => False
  | some (i, len) => wpS S M Q i len K pc L st w b
def wp (S : MS) (M : MT) (Q : AO → AW → Prop) (cut : List Nat) (X : XP) : Nat → XP
  | 0 => fun _ _ _ _ _ => False
  | n + 1 => fun pc L st w b => if pc ∈ cut then X pc L st w b else wp1 S M Q (wp S M Q cut X n) pc L st w b
/-! ===== a method's contract over abstract worlds ===== -/
def mPc (E : AE) (ad : AM) (w : AW) (as : List Value) : Array Value → State → Prop := fun v U => v = (as.map (cv ad)).toArray ∧ Conc E ad w U.heap ∧ KK E U ∧ E.2.2 ≤ U.heap.size
def mExt (ad : AM) (w : AW) (ad1 : AM) (w1 : AW) : Prop := ∀ i, wT w i ≠ 0 → wT w1 i ≠ 0 ∧ ad1.1 i = ad.1 i
def mQc (E : AE) (ad : AM) (w : AW) (Q : AO → AW → Prop) : Array Value → State → Outcome → State → Prop := fun _ st o t => ∃ (r : Option Value) (w1 : AW) (ad1 : AM), o = .returned (r.map (cv ad1)) ∧ Q (.inl r) w1 ∧ Conc E ad1 w1 t.heap ∧ mExt ad w ad1 w1 ∧ (∀ v, r = some v → lvv w1 v) ∧ va_F (fun q => E.2.2 ≤ q) st t
def mXc (E : AE) (ad : AM) (w : AW) (Q : AO → AW → Prop) : String → State → State → Prop := fun C st t => ∃ (w1 : AW) (ad1 : AM), Q (.inr C) w1 ∧ Conc E ad1 w1 t.heap ∧ mExt ad w ad1 w1 ∧ va_F (fun q => E.2.2 ≤ q) st t
def MA (l : Launch) (E : AE) (y : MethodName) (cc : ByteArray) (maxL : Nat) (ret : Option FieldType) (fr lo mc ms : Nat) (as : List Value) (w : AW) (Q : AO → AW → Prop) : Prop :=
  ∀ ad : AM, (∀ v ∈ as, lvv w v) → vx_Met l y (.code y cc maxL ret :: TBL) { frames := fr, cells := mc, slots := ms, locals := lo } (mPc E ad w as) (mQc E ad w Q) (mXc E ad w Q) mc ms (fun q => E.2.2 ≤ q)
theorem mPc_blind (E : AE) (ad : AM) (w : AW) (as : List Value) : FrameBlind (mPc E ad w as) := fun a U g mk h => ⟨h.1, h.2.1, KK.moved (u := U) (U := U.calling g mk a) (Vm.Alike.refl U.vm) h.2.2.1, h.2.2.2⟩
/-- what a call's tables must hold -/
def CV (l : Launch) (R : Room) (E : AE) (own : String) (idx : Nat) (ci : CI) : Prop :=
  (ci.1 = 99 → Cond.methodLink own idx Lib.objectInit ∈ TBL ∧ 1 ≤ R.frames ∧ 20 ≤ R.locals) ∧
  (ci.1 ≠ 99 → ∃ (y : MethodName) (cc : ByteArray) (maxL : Nat) (ret : Option FieldType) (fr lo n : Nat), (∀ as w Q, ci.2.2.2.2 as w Q → MA l E y cc maxL ret fr lo ci.2.2.1 ci.2.2.2.1 as w Q) ∧ fr + 1 ≤ R.frames ∧ 8 + (maxL + 11) + lo ≤ R.locals ∧
    Cond.code y cc maxL ret ∈ TBL ∧ Cond.initialized y.cls ∈ TBL ∧ Cond.methodLink own idx y ∈ TBL ∧ (y.cls ≠ "java/lang/invoke/MethodHandle" ∧ y.cls ≠ "java/lang/invoke/VarHandle" ∧ (parseMethodDescriptor y.desc).map (fun d => d.parameters.length) = some n) ∧
    (ci.1 = 0 → Cond.static y ∈ TBL ∧ ci.2.1 = n) ∧
    (1 ≤ ci.1 → ci.1 ≤ 13 → Cond.instanceMethod y ∈ TBL ∧ Cond.selects y.cls y y ∈ TBL ∧ y.cls = vRn (ci.1 - 1) ∧ ci.2.1 = n + 1) ∧
    (ci.1 = 100 → y.name = "<init>" ∧ Cond.instanceMethod y ∈ TBL ∧ ret = none ∧ ci.2.1 = n + 1))
def MV (l : Launch) (R : Room) (E : AE) (own : String) (cc : ByteArray) (M : MT) : Prop :=
  (∀ pc i len, M.1 pc = some (i, len) → decode cc pc = .ok (i, len)) ∧
  (∀ idx c k, M.2.1 idx = some (c, k) → c < 13 ∧ k < vnn c ∧ Cond.fieldLink own idx (vTb c k).1 (vTb c k).2.1 (vTb c k).2.2.1 ∈ TBL) ∧
  (∀ idx ci, M.2.2.1 idx = some ci → CV l R E own idx ci) ∧
  (∀ idx v, M.2.2.2.1 idx = some v → Cond.constant own idx v ∈ TBL) ∧
  (∀ idx v, M.2.2.2.2.1 idx = some v → Cond.constantLong own idx v ∈ TBL) ∧
  (∀ idx c, M.2.2.2.2.2 idx = some c → c < 13 ∧ Cond.classLink own idx (vRn c) ∈ TBL ∧ Cond.instantiable (vRn c) (vnn c) ∈ TBL ∧ Cond.initialized (vRn c) ∈ TBL)
