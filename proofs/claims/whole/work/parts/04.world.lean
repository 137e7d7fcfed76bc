/-! ===== ABSTRACT WORLDS: things have numbers (ids); what they hold lies in maps, one for each kind =====
T: what a thing is (0: nothing; c + 1: an object of the class at place c of vwCl; 20 int[], 21 byte[], 22 long[]); I, R: int and reference fields (field's number 64 * class + place, thing); N: an array's length; A, J, P: what int and byte, long, reference arrays hold; L: lists -/
abbrev AW : Type := (Nat → Nat) × (Nat → Nat → Int32) × (Nat → Nat → Option Nat) × (Nat → Nat) × (Nat → Nat → Int32) × (Nat → Nat → Int64) × (Nat → Nat → Option Nat) × (Nat → List Nat)
def wT (w : AW) : Nat → Nat := w.1
def wI (w : AW) : Nat → Nat → Int32 := w.2.1
def wR (w : AW) : Nat → Nat → Option Nat := w.2.2.1
def wN (w : AW) : Nat → Nat := w.2.2.2.1
def wA (w : AW) : Nat → Nat → Int32 := w.2.2.2.2.1
def wJ (w : AW) : Nat → Nat → Int64 := w.2.2.2.2.2.1
def wP (w : AW) : Nat → Nat → Option Nat := w.2.2.2.2.2.2.1
def wL (w : AW) : Nat → List Nat := w.2.2.2.2.2.2.2
def up1 {α : Type} (f : Nat → α) (k : Nat) (v : α) : Nat → α := fun j => if j = k then v else f j
def up2 {α : Type} (f : Nat → Nat → α) (k i : Nat) (v : α) : Nat → Nat → α := fun k' i' => if k' = k then (if i' = i then v else f k' i') else f k' i'
def upc {α : Type} (f : Nat → Nat → α) (i : Nat) (v : α) : Nat → Nat → α := fun k' i' => if i' = i then v else f k' i'
def uq1 {α : Type} (f : Nat → Nat → α) (k : Nat) (v : Nat → α) : Nat → Nat → α := fun k' => if k' = k then v else f k'
def upr {α : Type} (f : Nat → Nat → α) (k : Nat) (v : α) : Nat → Nat → α := fun k' i' => if k' = k then v else f k' i'
def sI (w : AW) (k i : Nat) (v : Int32) : AW := (w.1, up2 w.2.1 k i v, w.2.2.1, w.2.2.2.1, w.2.2.2.2.1, w.2.2.2.2.2.1, w.2.2.2.2.2.2.1, w.2.2.2.2.2.2.2)
def sR (w : AW) (k i : Nat) (v : Option Nat) : AW := (w.1, w.2.1, up2 w.2.2.1 k i v, w.2.2.2.1, w.2.2.2.2.1, w.2.2.2.2.2.1, w.2.2.2.2.2.2.1, w.2.2.2.2.2.2.2)
def sA (w : AW) (k i : Nat) (v : Int32) : AW := (w.1, w.2.1, w.2.2.1, w.2.2.2.1, up2 w.2.2.2.2.1 k i v, w.2.2.2.2.2.1, w.2.2.2.2.2.2.1, w.2.2.2.2.2.2.2)
def sJ (w : AW) (k i : Nat) (v : Int64) : AW := (w.1, w.2.1, w.2.2.1, w.2.2.2.1, w.2.2.2.2.1, up2 w.2.2.2.2.2.1 k i v, w.2.2.2.2.2.2.1, w.2.2.2.2.2.2.2)
def sP (w : AW) (k i : Nat) (v : Option Nat) : AW := (w.1, w.2.1, w.2.2.1, w.2.2.2.1, w.2.2.2.2.1, w.2.2.2.2.2.1, up2 w.2.2.2.2.2.2.1 k i v, w.2.2.2.2.2.2.2)
def sQ (w : AW) (k : Nat) (f : Nat → Option Nat) : AW := (w.1, w.2.1, w.2.2.1, w.2.2.2.1, w.2.2.2.2.1, w.2.2.2.2.2.1, uq1 w.2.2.2.2.2.2.1 k f, w.2.2.2.2.2.2.2)
def sL (w : AW) (i : Nat) (v : List Nat) : AW := (w.1, w.2.1, w.2.2.1, w.2.2.2.1, w.2.2.2.2.1, w.2.2.2.2.2.1, w.2.2.2.2.2.2.1, up1 w.2.2.2.2.2.2.2 i v)
def sT (w : AW) (i : Nat) (v : Nat) : AW := (up1 w.1 i v, w.2.1, w.2.2.1, w.2.2.2.1, w.2.2.2.2.1, w.2.2.2.2.2.1, w.2.2.2.2.2.2.1, w.2.2.2.2.2.2.2)
def nO (w : AW) (i t : Nat) : AW := (up1 w.1 i t, upc w.2.1 i 0, upc w.2.2.1 i none, w.2.2.2.1, w.2.2.2.2.1, w.2.2.2.2.2.1, upr w.2.2.2.2.2.2.1 i none, up1 w.2.2.2.2.2.2.2 i [])
def nA (w : AW) (i t n : Nat) : AW := (up1 w.1 i t, upc w.2.1 i 0, upc w.2.2.1 i none, up1 w.2.2.2.1 i n, upr w.2.2.2.2.1 i 0, upr w.2.2.2.2.2.1 i 0, upr w.2.2.2.2.2.2.1 i none, up1 w.2.2.2.2.2.2.2 i [])
theorem wT_sI (w : AW) (k i : Nat) (v : Int32) : wT (sI w k i v) = wT w := Eq.trans rfl rfl
theorem wI_sI (w : AW) (k i : Nat) (v : Int32) (k' i' : Nat) : wI (sI w k i v) k' i' = if k' = k then (if i' = i then v else wI w k' i') else wI w k' i' := Eq.trans rfl rfl
theorem wR_sI (w : AW) (k i : Nat) (v : Int32) : wR (sI w k i v) = wR w := Eq.trans rfl rfl
theorem wN_sI (w : AW) (k i : Nat) (v : Int32) : wN (sI w k i v) = wN w := Eq.trans rfl rfl
theorem wA_sI (w : AW) (k i : Nat) (v : Int32) : wA (sI w k i v) = wA w := Eq.trans rfl rfl
theorem wJ_sI (w : AW) (k i : Nat) (v : Int32) : wJ (sI w k i v) = wJ w := Eq.trans rfl rfl
theorem wP_sI (w : AW) (k i : Nat) (v : Int32) : wP (sI w k i v) = wP w := Eq.trans rfl rfl
theorem wL_sI (w : AW) (k i : Nat) (v : Int32) : wL (sI w k i v) = wL w := Eq.trans rfl rfl
theorem wT_sR (w : AW) (k i : Nat) (v : Option Nat) : wT (sR w k i v) = wT w := Eq.trans rfl rfl
theorem wI_sR (w : AW) (k i : Nat) (v : Option Nat) : wI (sR w k i v) = wI w := Eq.trans rfl rfl
theorem wR_sR (w : AW) (k i : Nat) (v : Option Nat) (k' i' : Nat) : wR (sR w k i v) k' i' = if k' = k then (if i' = i then v else wR w k' i') else wR w k' i' := Eq.trans rfl rfl
theorem wN_sR (w : AW) (k i : Nat) (v : Option Nat) : wN (sR w k i v) = wN w := Eq.trans rfl rfl
theorem wA_sR (w : AW) (k i : Nat) (v : Option Nat) : wA (sR w k i v) = wA w := Eq.trans rfl rfl
theorem wJ_sR (w : AW) (k i : Nat) (v : Option Nat) : wJ (sR w k i v) = wJ w := Eq.trans rfl rfl
theorem wP_sR (w : AW) (k i : Nat) (v : Option Nat) : wP (sR w k i v) = wP w := Eq.trans rfl rfl
theorem wL_sR (w : AW) (k i : Nat) (v : Option Nat) : wL (sR w k i v) = wL w := Eq.trans rfl rfl
theorem wT_sA (w : AW) (k i : Nat) (v : Int32) : wT (sA w k i v) = wT w := Eq.trans rfl rfl
theorem wI_sA (w : AW) (k i : Nat) (v : Int32) : wI (sA w k i v) = wI w := Eq.trans rfl rfl
theorem wR_sA (w : AW) (k i : Nat) (v : Int32) : wR (sA w k i v) = wR w := Eq.trans rfl rfl
theorem wN_sA (w : AW) (k i : Nat) (v : Int32) : wN (sA w k i v) = wN w := Eq.trans rfl rfl
theorem wA_sA (w : AW) (k i : Nat) (v : Int32) (k' i' : Nat) : wA (sA w k i v) k' i' = if k' = k then (if i' = i then v else wA w k' i') else wA w k' i' := Eq.trans rfl rfl
theorem wJ_sA (w : AW) (k i : Nat) (v : Int32) : wJ (sA w k i v) = wJ w := Eq.trans rfl rfl
theorem wP_sA (w : AW) (k i : Nat) (v : Int32) : wP (sA w k i v) = wP w := Eq.trans rfl rfl
theorem wL_sA (w : AW) (k i : Nat) (v : Int32) : wL (sA w k i v) = wL w := Eq.trans rfl rfl
theorem wT_sJ (w : AW) (k i : Nat) (v : Int64) : wT (sJ w k i v) = wT w := Eq.trans rfl rfl
theorem wI_sJ (w : AW) (k i : Nat) (v : Int64) : wI (sJ w k i v) = wI w := Eq.trans rfl rfl
theorem wR_sJ (w : AW) (k i : Nat) (v : Int64) : wR (sJ w k i v) = wR w := Eq.trans rfl rfl
theorem wN_sJ (w : AW) (k i : Nat) (v : Int64) : wN (sJ w k i v) = wN w := Eq.trans rfl rfl
theorem wA_sJ (w : AW) (k i : Nat) (v : Int64) : wA (sJ w k i v) = wA w := Eq.trans rfl rfl
theorem wJ_sJ (w : AW) (k i : Nat) (v : Int64) (k' i' : Nat) : wJ (sJ w k i v) k' i' = if k' = k then (if i' = i then v else wJ w k' i') else wJ w k' i' := Eq.trans rfl rfl
theorem wP_sJ (w : AW) (k i : Nat) (v : Int64) : wP (sJ w k i v) = wP w := Eq.trans rfl rfl
theorem wL_sJ (w : AW) (k i : Nat) (v : Int64) : wL (sJ w k i v) = wL w := Eq.trans rfl rfl
theorem wT_sP (w : AW) (k i : Nat) (v : Option Nat) : wT (sP w k i v) = wT w := Eq.trans rfl rfl
theorem wI_sP (w : AW) (k i : Nat) (v : Option Nat) : wI (sP w k i v) = wI w := Eq.trans rfl rfl
theorem wR_sP (w : AW) (k i : Nat) (v : Option Nat) : wR (sP w k i v) = wR w := Eq.trans rfl rfl
theorem wN_sP (w : AW) (k i : Nat) (v : Option Nat) : wN (sP w k i v) = wN w := Eq.trans rfl rfl
theorem wA_sP (w : AW) (k i : Nat) (v : Option Nat) : wA (sP w k i v) = wA w := Eq.trans rfl rfl
theorem wJ_sP (w : AW) (k i : Nat) (v : Option Nat) : wJ (sP w k i v) = wJ w := Eq.trans rfl rfl
theorem wP_sP (w : AW) (k i : Nat) (v : Option Nat) (k' i' : Nat) : wP (sP w k i v) k' i' = if k' = k then (if i' = i then v else wP w k' i') else wP w k' i' := Eq.trans rfl rfl
theorem wL_sP (w : AW) (k i : Nat) (v : Option Nat) : wL (sP w k i v) = wL w := Eq.trans rfl rfl
theorem wT_sQ (w : AW) (k : Nat) (f : Nat → Option Nat) : wT (sQ w k f) = wT w := Eq.trans rfl rfl
theorem wI_sQ (w : AW) (k : Nat) (f : Nat → Option Nat) : wI (sQ w k f) = wI w := Eq.trans rfl rfl
theorem wR_sQ (w : AW) (k : Nat) (f : Nat → Option Nat) : wR (sQ w k f) = wR w := Eq.trans rfl rfl
theorem wN_sQ (w : AW) (k : Nat) (f : Nat → Option Nat) : wN (sQ w k f) = wN w := Eq.trans rfl rfl
theorem wA_sQ (w : AW) (k : Nat) (f : Nat → Option Nat) : wA (sQ w k f) = wA w := Eq.trans rfl rfl
theorem wJ_sQ (w : AW) (k : Nat) (f : Nat → Option Nat) : wJ (sQ w k f) = wJ w := Eq.trans rfl rfl
theorem wP_sQ (w : AW) (k : Nat) (f : Nat → Option Nat) (k' i' : Nat) : wP (sQ w k f) k' i' = if k' = k then f i' else wP w k' i' := Eq.trans (apply_ite (fun z : Nat → Option Nat => z i') (k' = k) f (wP w k')) rfl
theorem wL_sQ (w : AW) (k : Nat) (f : Nat → Option Nat) : wL (sQ w k f) = wL w := Eq.trans rfl rfl
theorem wT_sL (w : AW) (i : Nat) (v : List Nat) : wT (sL w i v) = wT w := Eq.trans rfl rfl
theorem wI_sL (w : AW) (i : Nat) (v : List Nat) : wI (sL w i v) = wI w := Eq.trans rfl rfl
theorem wR_sL (w : AW) (i : Nat) (v : List Nat) : wR (sL w i v) = wR w := Eq.trans rfl rfl
theorem wN_sL (w : AW) (i : Nat) (v : List Nat) : wN (sL w i v) = wN w := Eq.trans rfl rfl
theorem wA_sL (w : AW) (i : Nat) (v : List Nat) : wA (sL w i v) = wA w := Eq.trans rfl rfl
theorem wJ_sL (w : AW) (i : Nat) (v : List Nat) : wJ (sL w i v) = wJ w := Eq.trans rfl rfl
theorem wP_sL (w : AW) (i : Nat) (v : List Nat) : wP (sL w i v) = wP w := Eq.trans rfl rfl
theorem wL_sL (w : AW) (i : Nat) (v : List Nat) (i' : Nat) : wL (sL w i v) i' = if i' = i then v else wL w i' := Eq.trans rfl rfl
theorem wT_sT (w : AW) (i : Nat) (v : Nat) (i' : Nat) : wT (sT w i v) i' = if i' = i then v else wT w i' := Eq.trans rfl rfl
theorem wI_sT (w : AW) (i : Nat) (v : Nat) : wI (sT w i v) = wI w := Eq.trans rfl rfl
theorem wR_sT (w : AW) (i : Nat) (v : Nat) : wR (sT w i v) = wR w := Eq.trans rfl rfl
theorem wN_sT (w : AW) (i : Nat) (v : Nat) : wN (sT w i v) = wN w := Eq.trans rfl rfl
theorem wA_sT (w : AW) (i : Nat) (v : Nat) : wA (sT w i v) = wA w := Eq.trans rfl rfl
theorem wJ_sT (w : AW) (i : Nat) (v : Nat) : wJ (sT w i v) = wJ w := Eq.trans rfl rfl
theorem wP_sT (w : AW) (i : Nat) (v : Nat) : wP (sT w i v) = wP w := Eq.trans rfl rfl
theorem wL_sT (w : AW) (i : Nat) (v : Nat) : wL (sT w i v) = wL w := Eq.trans rfl rfl
theorem wT_nO (w : AW) (i t : Nat) (i' : Nat) : wT (nO w i t) i' = if i' = i then t else wT w i' := Eq.trans rfl rfl
theorem wI_nO (w : AW) (i t : Nat) (k' i' : Nat) : wI (nO w i t) k' i' = if i' = i then 0 else wI w k' i' := Eq.trans rfl rfl
theorem wR_nO (w : AW) (i t : Nat) (k' i' : Nat) : wR (nO w i t) k' i' = if i' = i then none else wR w k' i' := Eq.trans rfl rfl
theorem wN_nO (w : AW) (i t : Nat) : wN (nO w i t) = wN w := Eq.trans rfl rfl
theorem wA_nO (w : AW) (i t : Nat) : wA (nO w i t) = wA w := Eq.trans rfl rfl
theorem wJ_nO (w : AW) (i t : Nat) : wJ (nO w i t) = wJ w := Eq.trans rfl rfl
theorem wP_nO (w : AW) (i t : Nat) (k' i' : Nat) : wP (nO w i t) k' i' = if k' = i then none else wP w k' i' := Eq.trans rfl rfl
theorem wL_nO (w : AW) (i t : Nat) (i' : Nat) : wL (nO w i t) i' = if i' = i then [] else wL w i' := Eq.trans rfl rfl
theorem wT_nA (w : AW) (i t n : Nat) (i' : Nat) : wT (nA w i t n) i' = if i' = i then t else wT w i' := Eq.trans rfl rfl
theorem wI_nA (w : AW) (i t n : Nat) (k' i' : Nat) : wI (nA w i t n) k' i' = if i' = i then 0 else wI w k' i' := Eq.trans rfl rfl
theorem wR_nA (w : AW) (i t n : Nat) (k' i' : Nat) : wR (nA w i t n) k' i' = if i' = i then none else wR w k' i' := Eq.trans rfl rfl
theorem wN_nA (w : AW) (i t n : Nat) (i' : Nat) : wN (nA w i t n) i' = if i' = i then n else wN w i' := Eq.trans rfl rfl
theorem wA_nA (w : AW) (i t n : Nat) (k' i' : Nat) : wA (nA w i t n) k' i' = if k' = i then 0 else wA w k' i' := Eq.trans rfl rfl
theorem wJ_nA (w : AW) (i t n : Nat) (k' i' : Nat) : wJ (nA w i t n) k' i' = if k' = i then 0 else wJ w k' i' := Eq.trans rfl rfl
theorem wP_nA (w : AW) (i t n : Nat) (k' i' : Nat) : wP (nA w i t n) k' i' = if k' = i then none else wP w k' i' := Eq.trans rfl rfl
theorem wL_nA (w : AW) (i t n : Nat) (i' : Nat) : wL (nA w i t n) i' = if i' = i then [] else wL w i' := Eq.trans rfl rfl
def vRn (c : Nat) : String := match c with
  | 0 => RJx4a65c
  | 1 => RX0
  | 2 => RX1
  | 3 => RX2
  | 4 => RX3
  | 5 => RX5
  | 6 => RX6
  | 7 => RX7
  | 8 => RX8
  | 9 => RX9
  | 10 => RX10
  | 11 => RX11
  | _ => RX12
def vTb (c : Nat) : u_T := match c with
  | 0 => TJx4a65c
  | 1 => TX0
  | 2 => TX1
  | 3 => TX2
  | 4 => TX3
  | 5 => TX5
  | 6 => TX6
  | 7 => TX7
  | 8 => TX8
  | 9 => TX9
  | 10 => TX10
  | 11 => TX11
  | _ => TX12
def vty (c : Nat) : Nat → FieldType := match c with
  | 0 => tyJx4a65c
  | 1 => tyX0
  | 2 => tyX1
  | 3 => tyX2
  | 4 => tyX3
  | 5 => tyX5
  | 6 => tyX6
  | 7 => tyX7
  | 8 => tyX8
  | 9 => tyX9
  | 10 => tyX10
  | 11 => tyX11
  | _ => tyX12
def vnn (c : Nat) : Nat := match c with
  | 0 => 3
  | 1 => 4
  | 2 => 3
  | 3 => 5
  | 4 => 9
  | 5 => 3
  | 6 => 4
  | 7 => 5
  | 8 => 11
  | 9 => 2
  | 10 => 11
  | 11 => 13
  | _ => 59
def isRf (t : FieldType) : Bool := match t with
  | .int => false
  | _ => true
/-- references by their ids; hidden cells of lists by the list's id -/
abbrev AM : Type := (Nat → Nat) × (Nat → Nat)
def cv (ad : AM) (v : Value) : Value := match v with
  | .ref i => .ref (ad.1 i)
  | v => v
theorem cv_cat (ad : AM) (v : Value) : (cv ad v).category = v.category := by cases v <;> rfl
def fv (ad : AM) (w : AW) (c k i : Nat) : Value := if isRf (vty c k) then va_rf ((wR w (64 * c + k) i).map ad.1) else .int (wI w (64 * c + k) i)
/-- classes and slots; int[], byte[], long[]; from which address on the cells are ours -/
abbrev AE : Type := va_G × (ClassId × ClassId × ClassId) × Nat
def KA (U : State) (c : ClassId) (t : FieldType) : Prop := ArrOfT U c t ∧ U.vm.findClass ("[" ++ t.toString) = some c
def KK (E : AE) (U : State) : Prop := (∀ c, c < 13 → u_Kn U (vRn c) (vTb c) (vnn c) (E.1.1 c) (E.1.2 c)) ∧ KA U E.2.1.1 .int ∧ KA U E.2.1.2.1 .byte ∧ KA U E.2.1.2.2 .long
theorem KA.moved {u U : State} (hvm : u.vm.Alike U.vm) {c : ClassId} {t : FieldType} (h : KA u c t) : KA U c t := ⟨arrOfT_moved hvm h.1, by rw [hvm.findClass]; exact h.2⟩
theorem KK.moved {E : AE} {u U : State} (hvm : u.vm.Alike U.vm) (h : KK E u) : KK E U := ⟨fun c hc => u_Kn_moved hvm (h.1 c hc), h.2.1.moved hvm, h.2.2.1.moved hvm, h.2.2.2.moved hvm⟩
/-- the words of the kinds of clause, as bytes -/
def kByt (k : Nat) : List Int32 := match k with
  | 0 => [99, 105, 116, 105, 101, 115]
  | 1 => [117, 110, 116, 105, 108]
  | 2 => [108, 105, 103, 104, 116]
  | 3 => [100, 97, 109, 112]
  | 4 => [114, 101, 115, 116]
  | _ => [97, 112, 97, 114, 116]
/-- what a list's three fields hold: changes, its row, its size -/
def lF (ad : AM) (w : AW) (i : Nat) (m : Int32) (k : Nat) : Value := if k = 0 then .int m else if k = 1 then .ref (ad.2 i) else .int (Int32.ofNat (wL w i).length)
/-- a list and its hidden row -/
def lOK (E : AE) (ad : AM) (w : AW) (H : Heap) (i : Nat) : Prop :=
  (∃ m : Int32, t_OB (ad.1 i) (E.1.1 0) 3 (E.1.2 0) H (lF ad w i m)) ∧
  ((ad.2 i = E.1.2 60 17 ∧ ad.2 i < E.2.2 ∧ wL w i = []) ∨ (E.2.2 ≤ ad.2 i ∧ ad.2 i < H.size ∧ ∃ cap : Nat, (wL w i).length ≤ cap ∧ 2 ≤ cap ∧ cap ≤ 100000 ∧ H[ad.2 i]? = some (arrV (E.1.1 50) cap (fun j => va_rf (((wL w i)[j]?).map ad.1)))))
/-- a thing's cell -/
def cOK (E : AE) (ad : AM) (w : AW) (H : Heap) (i : Nat) : Prop :=
  (∀ c, c < 13 → wT w i = c + 1 → t_OB (ad.1 i) (E.1.1 c) (vnn c) (E.1.2 c) H (fun k => fv ad w c k i)) ∧
  (wT w i = 20 → H[ad.1 i]? = some (arrV E.2.1.1 (wN w i) (fun j => .int (wA w i j)))) ∧
  (wT w i = 21 → H[ad.1 i]? = some (arrV E.2.1.2.1 (wN w i) (fun j => .int (wA w i j)))) ∧
  (wT w i = 22 → H[ad.1 i]? = some (arrV E.2.1.2.2 (wN w i) (fun j => .long (wJ w i j)))) ∧
  (wT w i = 23 → H[ad.1 i]? = some (arrV (E.1.1 50) (wN w i) (fun j => va_rf ((wP w i j).map ad.1)))) ∧
  (wT w i = 24 → H[ad.1 i]? = some (arrV (E.1.1 51) (wN w i) (fun j => va_rf ((wP w i j).map ad.1)))) ∧
  (wT w i = 40 → lOK E ad w H i) ∧
  (wT w i = 50 → ad.1 i = E.1.2 60 i) ∧
  (wT w i = 51 → ad.1 i < E.2.2)
def kdI (i : Nat) : Prop := 10 ≤ i ∧ i < 16
/-- things whose cells are known to be apart when their numbers are -/
def apK (w : AW) (i j : Nat) : Prop := (wT w i ≠ 50 ∧ wT w j ≠ 50) ∨ (wT w i = 50 ∧ wT w j = 50 ∧ kdI i ∧ kdI j) ∨ (wT w i < 50 ∧ j = 17 ∧ wT w j = 50) ∨ (wT w j < 50 ∧ i = 17 ∧ wT w i = 50)
def acOK (w : AW) (x y : Option Nat) : Prop := ∀ i j, x = some i → y = some j → i = j ∨ apK w i j
def Conc (E : AE) (ad : AM) (w : AW) (H : Heap) : Prop :=
  (∀ i, wT w i ≠ 0 → wT w i ≠ 50 → ad.1 i < H.size ∧ (wT w i < 50 → E.2.2 ≤ ad.1 i)) ∧
  (∀ i j, wT w i ≠ 0 → wT w j ≠ 0 → wT w i ≠ 50 → wT w j ≠ 50 → ad.1 i = ad.1 j → i = j) ∧
  (∀ i, cOK E ad w H i) ∧
  (∀ k i j, wT w i ≠ 0 → wR w k i = some j → wT w j ≠ 0) ∧
  (∀ i k j, wT w i ≠ 0 → wP w i k = some j → wT w j ≠ 0) ∧
  (∀ i j, wT w i ≠ 0 → j ∈ wL w i → wT w j ≠ 0) ∧
  (∀ i j, wT w i = 40 → E.2.2 ≤ ad.2 i → wT w j ≠ 0 → wT w j ≠ 50 → ad.2 i ≠ ad.1 j) ∧
  (∀ i j, wT w i = 40 → wT w j = 40 → E.2.2 ≤ ad.2 i → ad.2 i = ad.2 j → i = j)
theorem cOK.obj {E : AE} {ad : AM} {w : AW} {H : Heap} {i c : Nat} (hc : c < 13) (hT : wT w i = c + 1) (h : t_OB (ad.1 i) (E.1.1 c) (vnn c) (E.1.2 c) H (fun k => fv ad w c k i)) : cOK E ad w H i := ⟨fun c1 _ ht => by have e : c1 = c := (by omega); subst e; exact h, fun ht => by omega, fun ht => by omega, fun ht => by omega, fun ht => by omega, fun ht => by omega, fun ht => by omega, fun ht => by omega, fun ht => by omega⟩
theorem cOK.a20 {E : AE} {ad : AM} {w : AW} {H : Heap} {i : Nat} (hT : wT w i = 20) (h : H[ad.1 i]? = some (arrV E.2.1.1 (wN w i) (fun j => .int (wA w i j)))) : cOK E ad w H i := ⟨fun c1 _ ht => by omega, fun _ => h, fun ht => by omega, fun ht => by omega, fun ht => by omega, fun ht => by omega, fun ht => by omega, fun ht => by omega, fun ht => by omega⟩
theorem cOK.a21 {E : AE} {ad : AM} {w : AW} {H : Heap} {i : Nat} (hT : wT w i = 21) (h : H[ad.1 i]? = some (arrV E.2.1.2.1 (wN w i) (fun j => .int (wA w i j)))) : cOK E ad w H i := ⟨fun c1 _ ht => by omega, fun ht => by omega, fun _ => h, fun ht => by omega, fun ht => by omega, fun ht => by omega, fun ht => by omega, fun ht => by omega, fun ht => by omega⟩
theorem cOK.a22 {E : AE} {ad : AM} {w : AW} {H : Heap} {i : Nat} (hT : wT w i = 22) (h : H[ad.1 i]? = some (arrV E.2.1.2.2 (wN w i) (fun j => .long (wJ w i j)))) : cOK E ad w H i := ⟨fun c1 _ ht => by omega, fun ht => by omega, fun ht => by omega, fun _ => h, fun ht => by omega, fun ht => by omega, fun ht => by omega, fun ht => by omega, fun ht => by omega⟩
theorem cOK.a23 {E : AE} {ad : AM} {w : AW} {H : Heap} {i : Nat} (hT : wT w i = 23) (h : H[ad.1 i]? = some (arrV (E.1.1 50) (wN w i) (fun j => va_rf ((wP w i j).map ad.1)))) : cOK E ad w H i := ⟨fun c1 _ ht => by omega, fun ht => by omega, fun ht => by omega, fun ht => by omega, fun _ => h, fun ht => by omega, fun ht => by omega, fun ht => by omega, fun ht => by omega⟩
theorem cOK.a24 {E : AE} {ad : AM} {w : AW} {H : Heap} {i : Nat} (hT : wT w i = 24) (h : H[ad.1 i]? = some (arrV (E.1.1 51) (wN w i) (fun j => va_rf ((wP w i j).map ad.1)))) : cOK E ad w H i := ⟨fun c1 _ ht => by omega, fun ht => by omega, fun ht => by omega, fun ht => by omega, fun ht => by omega, fun _ => h, fun ht => by omega, fun ht => by omega, fun ht => by omega⟩
theorem cOK.l40 {E : AE} {ad : AM} {w : AW} {H : Heap} {i : Nat} (hT : wT w i = 40) (h : lOK E ad w H i) : cOK E ad w H i := ⟨fun c1 _ ht => by omega, fun ht => by omega, fun ht => by omega, fun ht => by omega, fun ht => by omega, fun ht => by omega, fun _ => h, fun ht => by omega, fun ht => by omega⟩
/-- a thing's cell speaks of its own maps alone -/
theorem cOK.congr {E : AE} {ad ad1 : AM} {w w1 : AW} {H H1 : Heap} {i : Nat} (h : cOK E ad w H i) (ha : ad1.1 i = ad.1 i) (hT : wT w1 i = wT w i) (hI : ∀ k, wI w1 k i = wI w k i) (hR : ∀ k, wR w1 k i = wR w k i) (hR1 : ∀ k j, wR w k i = some j → ad1.1 j = ad.1 j) (hN : wN w1 i = wN w i) (hA : ∀ j, wA w1 i j = wA w i j) (hJ : ∀ j, wJ w1 i j = wJ w i j) (hP : ∀ j, wP w1 i j = wP w i j) (hP1 : ∀ k j, wP w i k = some j → ad1.1 j = ad.1 j) (hL : wL w1 i = wL w i) (hL1 : ∀ j ∈ wL w i, ad1.1 j = ad.1 j) (hH : wT w i ≠ 50 → H1[ad.1 i]? = H[ad.1 i]?) (hl : wT w i = 40 → ad1.2 i = ad.2 i ∧ (E.2.2 ≤ ad.2 i → ad.2 i < H.size → ad.2 i < H1.size ∧ H1[ad.2 i]? = H[ad.2 i]?)) : cOK E ad1 w1 H1 i := by
  obtain ⟨h1, h2, h3, h4, h5, h6, h7, h8, h9⟩ := h
  have eP : (fun j => va_rf ((wP w1 i j).map ad1.1)) = (fun j => va_rf ((wP w i j).map ad.1)) := by
    funext j
    rw [hP]
    cases hr : wP w i j with
    | none => rfl
    | some q => rw [Option.map_some, Option.map_some, hP1 _ _ hr]
  refine ⟨fun c hc ht => ?_, fun ht => ?_, fun ht => ?_, fun ht => ?_, fun ht => ?_, fun ht => ?_, fun ht => ?_, fun ht => ?_, fun ht => ?_⟩
  · rw [hT] at ht
    rw [ha]
    refine ((h1 c hc ht).kept (hH (by omega))).to (fun k _ => ?_)
    unfold fv
    rw [hI, hR]
    cases hr : wR w (64 * c + k) i with
    | none => rfl
    | some j => rw [Option.map_some, Option.map_some, hR1 _ _ hr]
  · rw [hT] at ht
    rw [ha, hH (by omega), h2 ht, hN, funext (f := fun j => Value.int (wA w1 i j)) (g := fun j => Value.int (wA w i j)) (fun j => by rw [hA j])]
  · rw [hT] at ht
    rw [ha, hH (by omega), h3 ht, hN, funext (f := fun j => Value.int (wA w1 i j)) (g := fun j => Value.int (wA w i j)) (fun j => by rw [hA j])]
  · rw [hT] at ht
    rw [ha, hH (by omega), h4 ht, hN, funext (f := fun j => Value.long (wJ w1 i j)) (g := fun j => Value.long (wJ w i j)) (fun j => by rw [hJ j])]
  · rw [hT] at ht
    rw [ha, hH (by omega), h5 ht, hN, eP]
  · rw [hT] at ht
    rw [ha, hH (by omega), h6 ht, hN, eP]
  · rw [hT] at ht
    obtain ⟨e2, hl⟩ := hl ht
    obtain ⟨⟨m, g1⟩, g2⟩ := h7 ht
    have eF : lF ad1 w1 i m = lF ad w i m := by funext k; unfold lF; rw [e2, hL]
    refine ⟨⟨m, ?_⟩, ?_⟩
    · rw [ha, eF]; exact g1.kept (hH (by omega))
    · rw [e2, hL]
      rcases g2 with g2 | ⟨g3, g4, cap, g5, g6, g7, g8⟩
      · exact Or.inl g2
      · obtain ⟨z1, z2⟩ := hl g3 g4
        refine Or.inr ⟨g3, z1, cap, g5, g6, g7, ?_⟩
        rw [z2, g8]
        congr 2
        funext j
        cases hr : (wL w i)[j]? with
        | none => rfl
        | some q => rw [Option.map_some, Option.map_some, hL1 q (List.mem_of_getElem? hr)]
  · rw [hT] at ht
    rw [ha]; exact h8 ht
  · rw [hT] at ht
    rw [ha]; exact h9 ht
/-- of a dead thing nothing is said -/
theorem cOK.dead {E : AE} {ad : AM} {w : AW} {H : Heap} {i : Nat} (h : wT w i = 0) : cOK E ad w H i := ⟨fun c _ ht => by omega, fun ht => by omega, fun ht => by omega, fun ht => by omega, fun ht => by omega, fun ht => by omega, fun ht => by omega, fun ht => by omega, fun ht => by omega⟩
/-- one thing's cell was written -/
theorem Conc.put {E : AE} {ad : AM} {w w1 : AW} {H H1 : Heap} {i : Nat} (h : Conc E ad w H) (hi : wT w i ≠ 0) (hi5 : wT w i < 40) (hz : H1.size = H.size) (ho : ∀ q, q ≠ ad.1 i → H1[q]? = H[q]?) (hT : wT w1 = wT w) (hI : ∀ k j, j ≠ i → wI w1 k j = wI w k j) (hR : ∀ k j, j ≠ i → wR w1 k j = wR w k j) (hN : wN w1 = wN w) (hA : ∀ j, j ≠ i → wA w1 j = wA w j) (hJ : ∀ j, j ≠ i → wJ w1 j = wJ w j) (hP : ∀ j, j ≠ i → wP w1 j = wP w j) (hL : wL w1 = wL w) (hc : cOK E ad w1 H1 i) (hcl : ∀ k j, wR w1 k i = some j → wT w j ≠ 0) (hclP : ∀ k j, wP w1 i k = some j → wT w j ≠ 0) : Conc E ad w1 H1 := by
  obtain ⟨h1, h2, h3, h4, h5, h6, h7, h8⟩ := h
  refine ⟨fun j hj => by rw [hT] at hj ⊢; rw [hz]; exact h1 j hj, fun a b ha hb => by rw [hT] at ha hb ⊢; exact h2 a b ha hb, fun j => ?_, fun k j q hj hq => ?_, fun j k q hj hq => ?_, fun j q hj hq => by rw [hT] at hj ⊢; rw [hL] at hq; exact h6 j q hj hq, fun a b ha => by rw [hT] at ha ⊢; exact h7 a b ha, fun a b ha hb => by rw [hT] at ha hb; exact h8 a b ha hb⟩
  · by_cases hji : j = i
    · subst hji; exact hc
    · by_cases hd : wT w j = 0
      · exact cOK.dead (by rw [hT]; exact hd)
      · exact (h3 j).congr rfl (by rw [hT]) (fun k => hI k j hji) (fun k => hR k j hji) (fun _ _ _ => rfl) (by rw [hN]) (fun q => by rw [hA j hji]) (fun q => by rw [hJ j hji]) (fun q => by rw [hP j hji]) (fun _ _ _ => rfl) (by rw [hL]) (fun _ _ => rfl) (fun h50 => ho _ (fun e => hji (h2 j i hd hi h50 (by omega) e))) (fun ht => ⟨rfl, fun g1 g2 => ⟨by rw [hz]; exact g2, ho _ (h7 j i ht g1 hi (by omega))⟩⟩)
  · rw [hT] at hj ⊢
    by_cases hji : j = i
    · subst hji; exact hcl k q hq
    · rw [hR k j hji] at hq; exact h4 k j q hj hq
  · rw [hT] at hj ⊢
    by_cases hji : j = i
    · subst hji; exact hclP k q hq
    · rw [hP j hji] at hq; exact h5 j k q hj hq
/-- a thing was made -/
theorem Conc.new {E : AE} {ad : AM} {w w1 : AW} {H H1 : Heap} {i : Nat} (h : Conc E ad w H) (hi : wT w i = 0) (hz : H1.size = H.size + 1) (hE : E.2.2 ≤ H.size) (ho : ∀ q, q < H.size → H1[q]? = H[q]?) (hT1 : wT w1 i < 40) (hT : ∀ j, j ≠ i → wT w1 j = wT w j) (hI : ∀ k j, j ≠ i → wI w1 k j = wI w k j) (hR : ∀ k j, j ≠ i → wR w1 k j = wR w k j) (hN : ∀ j, j ≠ i → wN w1 j = wN w j) (hA : ∀ j, j ≠ i → wA w1 j = wA w j) (hJ : ∀ j, j ≠ i → wJ w1 j = wJ w j) (hP : ∀ j, j ≠ i → wP w1 j = wP w j) (hL : ∀ j, j ≠ i → wL w1 j = wL w j) (hc : cOK E (up1 ad.1 i H.size, ad.2) w1 H1 i) (hcl : ∀ k, wR w1 k i = none) (hclP : wT w1 i ≠ 0 → ∀ k, wP w1 i k = none) (hclL : wL w1 i = []) : Conc E (up1 ad.1 i H.size, ad.2) w1 H1 := by
  obtain ⟨h1, h2, h3, h4, h5, h6, h7, h8⟩ := h
  have hself : up1 ad.1 i H.size i = H.size := by simp [up1]
  have hoth : ∀ j, j ≠ i → up1 ad.1 i H.size j = ad.1 j := fun j hj => by simp [up1, hj]
  refine ⟨fun j hj hj50 => ?_, fun a b ha hb ha5 hb5 hab => ?_, fun j => ?_, fun k j q hj hq => ?_, fun j k q hj hq => ?_, fun j q hj hq => ?_, fun a b ha hE2 hb hb5 => ?_, fun a b ha hb hE2 hab => ?_⟩
  · by_cases hji : j = i
    · subst hji; dsimp only; rw [hself]; exact ⟨by omega, fun _ => by omega⟩
    · rw [hT j hji] at hj hj50 ⊢; dsimp only; rw [hoth j hji]; have := h1 j hj hj50; exact ⟨by omega, this.2⟩
  · dsimp only at hab
    by_cases hai : a = i
    · by_cases hbi : b = i
      · rw [hai, hbi]
      · rw [hT b hbi] at hb hb5
        rw [hai, hself, hoth b hbi] at hab
        have := (h1 b hb hb5).1; omega
    · rw [hT a hai] at ha ha5
      by_cases hbi : b = i
      · rw [hbi, hself, hoth a hai] at hab
        have := (h1 a ha ha5).1; omega
      · rw [hT b hbi] at hb hb5
        rw [hoth a hai, hoth b hbi] at hab
        exact h2 a b ha hb ha5 hb5 hab
  · by_cases hji : j = i
    · subst hji; exact hc
    · by_cases hd : wT w j = 0
      · exact cOK.dead (by rw [hT j hji]; exact hd)
      · exact (h3 j).congr (hoth j hji) (hT j hji) (fun k => hI k j hji) (fun k => hR k j hji) (fun k q hq => hoth q (fun e => h4 k j q hd hq (by rw [e]; exact hi))) (hN j hji) (fun q => by rw [hA j hji]) (fun q => by rw [hJ j hji]) (fun q => by rw [hP j hji]) (fun k q hq => hoth q (fun e => h5 j k q hd hq (by rw [e]; exact hi))) (hL j hji) (fun q hq => hoth q (fun e => h6 j q hd hq (by rw [e]; exact hi))) (fun h50 => ho _ (h1 j hd h50).1) (fun _ => ⟨rfl, fun _ g2 => ⟨by omega, ho _ g2⟩⟩)
  · by_cases hji : j = i
    · subst hji; rw [hcl] at hq; cases hq
    · rw [hT j hji] at hj; rw [hR k j hji] at hq
      have := h4 k j q hj hq
      rw [hT q (fun e => this (by rw [e]; exact hi))]; exact this
  · by_cases hji : j = i
    · subst hji; rw [hclP hj] at hq; cases hq
    · rw [hT j hji] at hj; rw [hP j hji] at hq
      have := h5 j k q hj hq
      rw [hT q (fun e => this (by rw [e]; exact hi))]; exact this
  · by_cases hji : j = i
    · subst hji; rw [hclL] at hq; cases hq
    · rw [hT j hji] at hj; rw [hL j hji] at hq
      have := h6 j q hj hq
      rw [hT q (fun e => this (by rw [e]; exact hi))]; exact this
  · have hai : a ≠ i := fun e => by rw [e] at ha; omega
    rw [hT a hai] at ha
    dsimp only at hE2 ⊢
    by_cases hbi : b = i
    · rw [hbi, hself]
      rcases ((h3 a).2.2.2.2.2.2.1 ha).2 with ⟨-, g, -⟩ | ⟨-, g, -⟩ <;> omega
    · rw [hT b hbi] at hb hb5
      rw [hoth b hbi]
      exact h7 a b ha hE2 hb hb5
  · have hai : a ≠ i := fun e => by rw [e] at ha; omega
    have hbi : b ≠ i := fun e => by rw [e] at hb; omega
    rw [hT a hai] at ha
    rw [hT b hbi] at hb
    exact h8 a b ha hb hE2 hab
/-- fewer things -/
theorem Conc.drop {E : AE} {ad : AM} {w w1 : AW} {H : Heap} (h : Conc E ad w H) (hT : ∀ i, wT w1 i ≠ 0 → wT w1 i = wT w i) (ho : w1.2 = w.2) (hcl : ∀ k i j, wT w1 i ≠ 0 → wR w k i = some j → wT w1 j ≠ 0) (hclP : ∀ i k j, wT w1 i ≠ 0 → wP w i k = some j → wT w1 j ≠ 0) (hclL : ∀ i j, wT w1 i ≠ 0 → j ∈ wL w i → wT w1 j ≠ 0) : Conc E ad w1 H := by
  obtain ⟨h1, h2, h3, h4, h5, h6, h7, h8⟩ := h
  have eI : wI w1 = wI w := by unfold wI; rw [ho]
  have eR : wR w1 = wR w := by unfold wR; rw [ho]
  have eN : wN w1 = wN w := by unfold wN; rw [ho]
  have eA : wA w1 = wA w := by unfold wA; rw [ho]
  have eJ : wJ w1 = wJ w := by unfold wJ; rw [ho]
  have eP : wP w1 = wP w := by unfold wP; rw [ho]
  have eL : wL w1 = wL w := by unfold wL; rw [ho]
  have hT0 : ∀ i, wT w1 i ≠ 0 → wT w i ≠ 0 := fun i hi => by rw [← hT i hi]; exact hi
  refine ⟨fun i hi h50 => by rw [hT i hi] at h50 ⊢; exact h1 i (hT0 i hi) h50, fun i j hi hj hi5 hj5 => by rw [hT i hi] at hi5; rw [hT j hj] at hj5; exact h2 i j (hT0 i hi) (hT0 j hj) hi5 hj5, fun i => ?_, fun k i j hi hq => hcl k i j hi (by rw [← eR]; exact hq), fun i k j hi hq => hclP i k j hi (by rw [← eP]; exact hq), fun i j hi hq => hclL i j hi (by rw [← eL]; exact hq), fun i j hi hE hj hj5 => ?_, fun i j hi hj => ?_⟩
  · by_cases hd : wT w1 i = 0
    · exact cOK.dead hd
    · exact (h3 i).congr rfl (hT i hd) (fun k => by rw [eI]) (fun k => by rw [eR]) (fun _ _ _ => rfl) (by rw [eN]) (fun q => by rw [eA]) (fun q => by rw [eJ]) (fun q => by rw [eP]) (fun _ _ _ => rfl) (by rw [eL]) (fun _ _ => rfl) (fun _ => rfl) (fun _ => ⟨rfl, fun _ g => ⟨g, rfl⟩⟩)
  · have hi' : wT w i = 40 := by rw [← hT i (by omega)]; exact hi
    rw [hT j hj] at hj5
    exact h7 i j hi' hE (hT0 j hj) hj5
  · have hi' : wT w i = 40 := by rw [← hT i (by omega)]; exact hi
    have hj' : wT w j = 40 := by rw [← hT j (by omega)]; exact hj
    exact h8 i j hi' hj'
/-! ===== locals: a map ===== -/
abbrev AL : Type := Nat → Option Value
/-- a value of one slot is stored; a long that ended here is gone -/
def ls1 (L : AL) (i : Nat) (v : Value) : AL := fun j => if j = i then some v else if j + 1 = i then (match L j with
  | some (.long _) => none
  | some (.double _) => none
  | o => o) else L j
def ls2 (L : AL) (i : Nat) (v : Value) : AL := fun j => if j = i then some v else if j = i + 1 then none else if j + 1 = i then (match L j with
  | some (.long _) => none
  | some (.double _) => none
  | o => o) else L j
def lok (ls : Array Slot) (nL : Nat) (ad : AM) (L : AL) : Prop := ls.size = nL ∧ lv_wf ls ∧ ∀ j v, L j = some v → ls[j]? = some (.val (cv ad v))
theorem lok.store1 {ls : Array Slot} {nL : Nat} {ad : AM} {L : AL} (h : lok ls nL ad L) {i : Nat} {v : Value} (hi : i < nL) (hc : v.category = 1) : ∃ ls', storeLocals ls i (cv ad v) = some ls' ∧ lok ls' nL ad (ls1 L i v) := by
  obtain ⟨h1, h2, h3⟩ := h
  have hcc : (cv ad v).category = 1 := by rw [cv_cat]; exact hc
  obtain ⟨ls', e', h'⟩ := lv_store1 (l := []) ⟨h1, h2, fun q hq => by cases hq⟩ hi hcc
  refine ⟨ls', e', h'.1, h'.2.1, fun j u hj => ?_⟩
  unfold ls1 at hj
  by_cases hji : j = i
  · rw [if_pos hji] at hj; cases hj; rw [hji]; exact h'.2.2 _ List.mem_cons_self
  · rw [if_neg hji] at hj
    have hLj : L j = some u ∧ ¬ (j + 1 = i ∧ u.category = 2) := by
      by_cases hj1 : j + 1 = i
      · rw [if_pos hj1] at hj
        cases hL : L j with
        | none => rw [hL] at hj; cases hj
        | some x =>
          rw [hL] at hj
          cases x <;> simp at hj <;> subst hj <;> simp [Value.category]
      · rw [if_neg hj1] at hj; exact ⟨hj, fun q => hj1 q.1⟩
    obtain ⟨ls2', e2, h2'⟩ := lv_store1 (l := [(j, cv ad u)]) ⟨h1, h2, fun q hq => by rw [List.mem_singleton.mp hq]; exact h3 j u hLj.1⟩ hi hcc
    rw [e'] at e2
    cases e2
    refine h2'.2.2 (j, cv ad u) (List.mem_cons_of_mem _ (List.mem_filter.mpr ⟨List.mem_singleton.mpr rfl, ?_⟩))
    have hcu : (cv ad u).category = u.category := cv_cat ad u
    simp only [hcu, Bool.and_eq_true, Bool.not_eq_true', beq_eq_false_iff_ne, ne_eq, Bool.and_eq_false_iff]
    refine ⟨hji, ?_⟩
    by_cases q : j + 1 = i
    · exact Or.inr (fun z => hLj.2 ⟨q, z⟩)
    · exact Or.inl q
theorem lok.store2 {ls : Array Slot} {nL : Nat} {ad : AM} {L : AL} (h : lok ls nL ad L) {i : Nat} {v : Value} (hi : i + 1 < nL) (hc : v.category = 2) : ∃ ls', storeLocals ls i (cv ad v) = some ls' ∧ lok ls' nL ad (ls2 L i v) := by
  obtain ⟨h1, h2, h3⟩ := h
  have hcc : (cv ad v).category = 2 := by rw [cv_cat]; exact hc
  obtain ⟨ls', e', h'⟩ := lv_store2 (l := []) ⟨h1, h2, fun q hq => by cases hq⟩ hi hcc
  refine ⟨ls', e', h'.1, h'.2.1, fun j u hj => ?_⟩
  unfold ls2 at hj
  by_cases hji : j = i
  · rw [if_pos hji] at hj; cases hj; rw [hji]; exact h'.2.2 _ List.mem_cons_self
  · rw [if_neg hji] at hj
    by_cases hj2 : j = i + 1
    · rw [if_pos hj2] at hj; cases hj
    · rw [if_neg hj2] at hj
      have hLj : L j = some u ∧ ¬ (j + 1 = i ∧ u.category = 2) := by
        by_cases hj1 : j + 1 = i
        · rw [if_pos hj1] at hj
          cases hL : L j with
          | none => rw [hL] at hj; cases hj
          | some x =>
            rw [hL] at hj
            cases x <;> simp at hj <;> subst hj <;> simp [Value.category]
        · rw [if_neg hj1] at hj; exact ⟨hj, fun q => hj1 q.1⟩
      obtain ⟨ls2', e2, h2'⟩ := lv_store2 (l := [(j, cv ad u)]) ⟨h1, h2, fun q hq => by rw [List.mem_singleton.mp hq]; exact h3 j u hLj.1⟩ hi hcc
      rw [e'] at e2
      cases e2
      refine h2'.2.2 (j, cv ad u) (List.mem_cons_of_mem _ (List.mem_filter.mpr ⟨List.mem_singleton.mpr rfl, ?_⟩))
      have hcu : (cv ad u).category = u.category := cv_cat ad u
      simp only [hcu, Bool.and_eq_true, Bool.not_eq_true', beq_eq_false_iff_ne, ne_eq, Bool.and_eq_false_iff]
      refine ⟨hji, hj2, ?_⟩
      by_cases q : j + 1 = i
      · exact Or.inr (fun z => hLj.2 ⟨q, z⟩)
      · exact Or.inl q
/-- a value speaks of living things -/
def lvv (w : AW) (v : Value) : Prop := ∀ i, v = .ref i → wT w i ≠ 0
theorem lvv_int (w : AW) (x : Int32) : lvv w (.int x) := fun i h => by cases h
theorem lvv_long (w : AW) (x : Int64) : lvv w (.long x) := fun i h => by cases h
theorem lvv_null (w : AW) : lvv w .null := fun i h => by cases h
theorem cv_new {ad : AM} {w : AW} {i q : Nat} {v : Value} (hi : wT w i = 0) (hv : lvv w v) : cv (up1 ad.1 i q, ad.2) v = cv ad v := by
  cases v with
  | ref j =>
    have hji : j ≠ i := fun e => hv j rfl (by rw [e]; exact hi)
    simp [cv, up1, hji]
  | _ => rfl
theorem cv_same {ad ad1 : AM} {w : AW} {v : Value} (h : ∀ i, wT w i ≠ 0 → ad1.1 i = ad.1 i) (hv : lvv w v) : cv ad1 v = cv ad v := by
  cases v with
  | ref j => show Value.ref (ad1.1 j) = Value.ref (ad.1 j); rw [h j (hv j rfl)]
  | _ => rfl
