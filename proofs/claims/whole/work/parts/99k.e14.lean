/-- the lines of a work as the reference keeps them -/
def refL (f h p q : Nat → Int32) (v : Int32) : Nat → List (Int32 × Int32 × Int32)
  | 0 => []
  | j + 1 => if f j = v then refL f h p q v j ++ [(h j, p j, q j)] else refL f h p q v j
/-- sheets -/
def RLs (w : AW) : Prop := (∀ q k, q < ct w 203 → k < 10 → wA w 118 (10 * q + k) = wA w (1500 + q) k ∧ ∀ i : Nat, nI i < wA w (1500 + q) k → i < 24 → wA w 119 (24 * (10 * q + k) + i) = wA w (1600 + q) (24 * k + i)) ∧ ∀ j, j < 40 → 10 * ct w 203 ≤ j → wA w 118 j = -1
/-- the air of the rooms -/
def RLa (w : AW) : Prop := ∀ r, r < ct w 202 → (wR w 518 (1200 + r) = none ∧ wA w 126 r = -1) ∨ ∃ q k, q < ct w 203 ∧ k < 10 ∧ wR w 518 (1200 + r) = some (1400 + q) ∧ wI w 519 (1200 + r) = nI k ∧ wA w 126 r = nI (10 * q + k)
/-- what hangs -/
def RLg (w : AW) : Prop := (∀ r, r < ct w 202 → (wL w (1300 + r)).Nodup ∧ ∀ n, n < ct w 201 → (1000 + n ∈ wL w (1300 + r) ↔ wR w 650 (1000 + n) = some (1200 + r))) ∧ ∀ n, n < ct w 201 → (∃ r, r < ct w 202 ∧ wR w 650 (1000 + n) = some (1200 + r) ∧ wI w 647 (1000 + n) = 3 ∧ wI w 648 (1000 + n) = nI r) ∨ (wR w 650 (1000 + n) = none ∧ ¬ wI w 647 (1000 + n) = 3)
/-- what lies in crates -/
def RLd (w : AW) : Prop := ∀ c, c < ct w 205 → (wL w (1800 + c)).Nodup ∧ ∀ n, n < ct w 201 → 1000 + n ∈ wL w (1800 + c) → wI w 647 (1000 + n) = 2 ∧ wI w 648 (1000 + n) = nI c
/-- lines -/
def lnV (w : AW) (q : Nat) : Int32 × Int32 × Int32 := (wI w 320 q, wI w 321 q, wI w 322 q)
def RLn (w : AW) : Prop := (∀ n, n < ct w 201 → (wL w (1100 + n)).map (lnV w) = refL (wA w 113) (wA w 114) (wA w 115) (wA w 116) (nI n) (wI w 771 100).toNatClampNeg) ∧ ∀ j, j < (wI w 771 100).toNatClampNeg → ∃ m, m < ct w 201 ∧ wA w 113 j = nI m
/-- how many lines, breaches there may be behind n calls -/
def RLm (n : Nat) (w : AW) : Prop := (∃ k, k ≤ 4 * n ∧ wI w 771 100 = nI k) ∧ (∀ m, m < ct w 201 → ct w (1100 + m) ≤ n) ∧ ∃ t c, t ≤ 200000 ∧ c ≤ 400 * t ∧ wI w 716 200 = nI t ∧ wI w 67 207 = nI c
/-- the tape -/
def RLt (w : AW) : Prop := BY (wA w 209) (wA w 135) (wI w 715 200).toNatClampNeg
/-- the book -/
def RLb (w : AW) : Prop := wI w 816 100 = wI w 67 207 ∧ ∀ k, k < 200 → wA w 150 k = wA w 212 k ∧ wA w 151 k = wA w 213 k ∧ wA w 152 k = wA w 214 k
/-- ids that are free -/
def RLf (w : AW) : Prop := (∀ n, ct w 201 ≤ n → n < 40 → wT w (1000 + n) = 0 ∧ wT w (1100 + n) = 0) ∧ (∀ n, ct w 202 ≤ n → n < 20 → wT w (1200 + n) = 0 ∧ wT w (1300 + n) = 0) ∧ (∀ n, ct w 203 ≤ n → n < 4 → wT w (1400 + n) = 0 ∧ wT w (1500 + n) = 0 ∧ wT w (1600 + n) = 0) ∧ (∀ n, ct w 205 ≤ n → n < 20 → wT w (1700 + n) = 0 ∧ wT w (1800 + n) = 0) ∧ (∀ n, ct w 204 ≤ n → n < 30 → wT w (1900 + n) = 0 ∧ wT w (2000 + n) = 0 ∧ ∀ i, i < 10 → wT w (2100 + 10 * n + i) = 0) ∧ wT w 223 = 0 ∧ ∀ g, (wI w 771 100).toNatClampNeg ≤ g → wT w (3000 + g) = 0
/-- what the reference holds of what is not yet there -/
def RLv (w : AW) : Prop := (∀ r, ct w 202 ≤ r → r < 20 → wA w 128 r = 0 ∧ wA w 127 r = 0) ∧ (∀ c, ct w 205 ≤ c → c < 20 → wA w 145 c = 0) ∧ ∀ n, ct w 201 ≤ n → n < 40 → ¬ wA w 110 n = 3
/-- heights -/
def RLz (w : AW) : Prop := ∀ n, n < ct w 201 → ∃ z, z ≤ 500 ∧ wI w 643 (1000 + n) = nI z
/-- the law's own row -/
def RLo (w : AW) : Prop := wT w 222 = 22 ∧ wN w 222 = 1 ∧ wT w 224 = 51
/-- class and reference hold the same behind n calls -/
def Rel (n : Nat) (w : AW) : Prop := CIv w ∧ RI w ∧ RB w ∧ RLc w ∧ RLw w ∧ RLl w ∧ RLr w ∧ RLk w ∧ RLu w ∧ RLs w ∧ RLa w ∧ RLg w ∧ RLd w ∧ RLn w ∧ RLm n w ∧ RLt w ∧ RLb w ∧ RLf w ∧ RLv w ∧ RLz w ∧ RLo w
theorem Rel.ci {n : Nat} {w : AW} (h : Rel n w) : CIv w := h.1
theorem Rel.ri {n : Nat} {w : AW} (h : Rel n w) : RI w := h.2.1
theorem Rel.rb {n : Nat} {w : AW} (h : Rel n w) : RB w := h.2.2.1
theorem Rel.c {n : Nat} {w : AW} (h : Rel n w) : RLc w := h.2.2.2.1
theorem Rel.wk {n : Nat} {w : AW} (h : Rel n w) : RLw w := h.2.2.2.2.1
theorem Rel.l {n : Nat} {w : AW} (h : Rel n w) : RLl w := h.2.2.2.2.2.1
theorem Rel.r {n : Nat} {w : AW} (h : Rel n w) : RLr w := h.2.2.2.2.2.2.1
theorem Rel.k {n : Nat} {w : AW} (h : Rel n w) : RLk w := h.2.2.2.2.2.2.2.1
theorem Rel.u {n : Nat} {w : AW} (h : Rel n w) : RLu w := h.2.2.2.2.2.2.2.2.1
theorem Rel.s {n : Nat} {w : AW} (h : Rel n w) : RLs w := h.2.2.2.2.2.2.2.2.2.1
theorem Rel.a {n : Nat} {w : AW} (h : Rel n w) : RLa w := h.2.2.2.2.2.2.2.2.2.2.1
theorem Rel.g {n : Nat} {w : AW} (h : Rel n w) : RLg w := h.2.2.2.2.2.2.2.2.2.2.2.1
theorem Rel.d {n : Nat} {w : AW} (h : Rel n w) : RLd w := h.2.2.2.2.2.2.2.2.2.2.2.2.1
theorem Rel.n {n : Nat} {w : AW} (h : Rel n w) : RLn w := h.2.2.2.2.2.2.2.2.2.2.2.2.2.1
theorem Rel.m {n : Nat} {w : AW} (h : Rel n w) : RLm n w := h.2.2.2.2.2.2.2.2.2.2.2.2.2.2.1
theorem Rel.t {n : Nat} {w : AW} (h : Rel n w) : RLt w := h.2.2.2.2.2.2.2.2.2.2.2.2.2.2.2.1
theorem Rel.b {n : Nat} {w : AW} (h : Rel n w) : RLb w := h.2.2.2.2.2.2.2.2.2.2.2.2.2.2.2.2.1
theorem Rel.f {n : Nat} {w : AW} (h : Rel n w) : RLf w := h.2.2.2.2.2.2.2.2.2.2.2.2.2.2.2.2.2.1
theorem Rel.v {n : Nat} {w : AW} (h : Rel n w) : RLv w := h.2.2.2.2.2.2.2.2.2.2.2.2.2.2.2.2.2.2.1
theorem Rel.z {n : Nat} {w : AW} (h : Rel n w) : RLz w := h.2.2.2.2.2.2.2.2.2.2.2.2.2.2.2.2.2.2.2.1
theorem Rel.o {n : Nat} {w : AW} (h : Rel n w) : RLo w := h.2.2.2.2.2.2.2.2.2.2.2.2.2.2.2.2.2.2.2.2
/-- how a call of the class and what the law keeps of it go together -/
def OC (ex : List String) (o : AO) (c : Nat) (y : Int32) : Prop := (o = .inl (some (.int y)) ∧ c = 0) ∨ ∃ s, o = .inr s ∧ 0 < c ∧ c ≤ 2 ∧ ex[c - 1]? = some s
def oJ (c : Nat) (y : Int32) (u : AW) : AW := if c = 0 then sJ u 222 0 y.toInt64 else u
theorem OC.ok {ex : List String} {y : Int32} : OC ex (.inl (some (.int y))) 0 y := Or.inl ⟨rfl, rfl⟩
theorem OC.ex {ex : List String} {c : Nat} {s : String} {y : Int32} (h0 : 0 < c) (h2 : c ≤ 2) (h : ex[c - 1]? = some s) : OC ex (.inr s) c y := Or.inr ⟨s, rfl, h0, h2, h⟩
def PRt (ex : List String) (S : CSp) (bs : List Value) (n : Nat) : AO → AW → Prop := fun o u => RLo u ∧ ∃ c y, OC ex o c y ∧ S (.ref 100 :: bs) (oJ c y u) (fun o' v => ∃ z, o' = .inl (some (.int z)) ∧ wI v 768 100 = nI c ∧ (c = 0 → z = y) ∧ Rel (n + 1) v)
def PRd (S : CSp) (bs : List Value) (n : Nat) : AO → AW → Prop := fun o u => RLo u ∧ ∃ y, o = .inl (some (.int y)) ∧ S (.ref 100 :: bs) u (fun o' v => o' = .inl (some (.int y)) ∧ Rel (n + 1) v)
theorem RLm.up {n : Nat} {w : AW} (h : RLm n w) : RLm (n + 1) w := by
  obtain ⟨⟨k, hk, e⟩, h2, h3⟩ := h
  exact ⟨⟨k, by omega, e⟩, fun m hm => Nat.le_succ_of_le (h2 m hm), h3⟩
theorem Rel.thr {n : Nat} {w : AW} (h : Rel n w) (v : Int32) : Rel n (sI w 768 100 v) := h
theorem Rel.out {n : Nat} {w : AW} (h : Rel n w) (v : Int64) : Rel n (sJ w 222 0 v) := h
theorem Rel.up {n : Nat} {w : AW} (h : Rel n w) : Rel (n + 1) w := ⟨h.ci, h.ri, h.rb, h.c, h.wk, h.l, h.r, h.k, h.u, h.s, h.a, h.g, h.d, h.n, h.m.up, h.t, h.b, h.f, h.v, h.z, h.o⟩
theorem Rel.o2 {n : Nat} {w : AW} (h : Rel n w) : wT w 222 = 22 ∧ wN w 222 = 1 := ⟨h.o.1, h.o.2.1⟩
theorem wI_thr (w : AW) (v : Int32) : wI (sI w 768 100 v) 768 100 = v := rfl

