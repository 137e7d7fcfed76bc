section LAWG
variable {p : Program} {l : Launch} {e : Env} {s : State} {m : MethodId} {args : Array Value} {below : List Frame} {meth : Method} {c : Code}
variable {E : AE} {ad0 : AM} {N : Nat} {xs : Nat → Int32}
theorem lw_0 (C : Cx p l room_1 s m args meth c E (RL, 7, some FieldType.boolean, false) cL_law 601024 7293034) (hX : ScX E s (lw_w0 N xs) ad0 N xs) (hnc : ∀ w ∈ NCW, w.before args s = true) : Sm p l e room_1 s m args below meth c E (RL, 7, some FieldType.boolean, false) 601024 7293034 (lw_w0 N xs) ad0 (fun ou _ => ou = .inl (some (.int 1))) 0 (la [.ref 224]) [] (lw_w0 N xs) (601024, 7293034) := by
  have hNl : N ≤ 3072 := hX.2.2.2.2
  refine so_new C (X := 200) (c0 := 11) hd_0 ⟨by decide, TBL_tb (List.mem_append_left _ (List.mem_of_getElem? (i := 35) rfl)) rfl, TBL_tb (List.mem_append_left _ (List.mem_of_getElem? (i := 36) rfl)) rfl, TBL_tb (List.mem_append_left _ (List.mem_of_getElem? (i := 1) rfl)) rfl⟩ (by decide) (by decide) rfl ?_
  refine tx C hd_3 (by decide) ⟨rfl, .ref 200, [], rfl, rfl, ?_⟩
  refine tx_I C (i := 200) (t := [.ref 200]) (Q1 := fun ou v => ou = .inl none ∧ v = ofW (nO (lw_w0 N xs) 200 12)) hd_4 (ct_X11_init l E _ _ _ ⟨rfl, ⟨rfl, lw_lc, rfl, rfl, rfl, rfl, rfl, rfl, rfl, rfl, rfl, rfl, rfl, rfl, rfl, rfl, rfl, rfl, rfl, rfl, rfl, rfl, rfl⟩, rfl, rfl⟩) (by decide) (by decide) (TBL_tb (List.mem_append_left _ (List.mem_of_getElem? (i := 39) rfl)) rfl) (TBL_tb (List.mem_append_left _ (List.mem_of_getElem? (i := 1) rfl)) rfl) (TBL_tb (List.mem_append_left _ (List.mem_of_getElem? (i := 37) rfl)) rfl) ⟨by decide, by decide, by decide +kernel⟩ rfl (TBL_tb (List.mem_append_left _ (List.mem_of_getElem? (i := 38) rfl)) rfl) (by decide) (by decide) (by decide) (fun Ec w1 h => by cases h.1) (fun v w1 h => ?_)
  obtain ⟨hv, rfl⟩ := h
  have hv := Sum.inl.inj hv
  subst hv
  refine tx C hd_7 (by decide) ⟨rfl, some 200, [], rfl, by decide, ?_⟩
  refine so_new C (X := 100) (c0 := 12) hd_8 ⟨by decide, TBL_tb (List.mem_append_right _ (List.mem_append_right _ (List.mem_append_right _ (List.mem_append_right _ (List.mem_append_right _ (List.mem_append_left _ (List.mem_of_getElem? (i := 21) rfl))))))) rfl, TBL_tb (List.mem_append_right _ (List.mem_append_right _ (List.mem_append_right _ (List.mem_append_right _ (List.mem_append_right _ (List.mem_append_left _ (List.mem_of_getElem? (i := 22) rfl))))))) rfl, TBL_tb (List.mem_append_left _ (List.mem_of_getElem? (i := 7) rfl)) rfl⟩ (by decide) (by decide) (of0_z (by omega)) ?_
  refine tx C hd_11 (by decide) ⟨rfl, .ref 100, [], rfl, rfl, ?_⟩
  refine tx_I C (i := 100) (t := [.ref 100]) (Q1 := fun ou v => ou = .inl none ∧ v = lw_w4 N xs) hd_12 (ct_X12_init l E _ _ _ ⟨rfl, ⟨by rw [wT_nO, if_pos rfl], fun x a1 a2 => by rw [wT_nO, if_neg (by omega)]; exact of0_z (by omega)⟩, rfl, rfl⟩) (by decide) (by decide) (TBL_tb (List.mem_append_right _ (List.mem_append_right _ (List.mem_append_right _ (List.mem_append_right _ (List.mem_append_right _ (List.mem_append_left _ (List.mem_of_getElem? (i := 25) rfl))))))) rfl) (TBL_tb (List.mem_append_left _ (List.mem_of_getElem? (i := 7) rfl)) rfl) (TBL_tb (List.mem_append_right _ (List.mem_append_right _ (List.mem_append_right _ (List.mem_append_right _ (List.mem_append_right _ (List.mem_append_left _ (List.mem_of_getElem? (i := 23) rfl))))))) rfl) ⟨by decide, by decide, by decide +kernel⟩ rfl (TBL_tb (List.mem_append_right _ (List.mem_append_right _ (List.mem_append_right _ (List.mem_append_right _ (List.mem_append_right _ (List.mem_append_left _ (List.mem_of_getElem? (i := 24) rfl))))))) rfl) (by decide) (by decide) (by decide) (fun Ec w1 h => by cases h.1) (fun v w1 h => ?_)
  obtain ⟨hv, rfl⟩ := h
  have hv := Sum.inl.inj hv
  subst hv
  refine tx C hd_15 (by decide) ⟨rfl, some 100, [], rfl, by decide, ?_⟩
  refine tx C hd_16 (by decide) ⟨rfl, ?_⟩
  refine tx C hd_17 (by decide) ⟨rfl, Int32.ofInt 1, [], rfl, Or.inr (Or.inr rfl), by decide, by decide, by decide, by decide, 222, by rw [w4_T (by omega)]; exact of0_z (by omega), ?_⟩
  refine tx C hd_19 (by decide) ⟨rfl, some 222, [], rfl, by decide, ?_⟩
  refine tx C hd_20 (by decide) ⟨rfl, ?_⟩
  refine tx C hd_21 (by decide) ⟨rfl, Int32.ofInt 0, [], rfl, by decide, ?_⟩
  refine lw_23 C hX hnc (N / 6) 0 _ (lw_w5 N xs) _ ⟨rfl, rfl, rfl, rfl, rfl⟩ rel0 (by omega) (by omega) ?_ ?_
  · show 100 * (N / 6) ≤ 601024 - 1 - 21 - 1 - 44 - 1
    omega
  · show 13286 * (N / 6) ≤ 7293034 - 13 - 1800 - 59 - 13117 - 1
    omega
theorem lw_v {n : Nat} {ys : Nat → Int32} (i : Nat) : (wT (lw_w0 n ys) i = 51 ∧ i = 224) ∨ (i ≠ 224 ∧ (wT (lw_w0 n ys) i = 50 ∨ wT (lw_w0 n ys) i = 0)) := by
  rw [lw_T]
  by_cases h : i = 224
  · exact Or.inl ⟨if_pos h, h⟩
  · refine Or.inr ⟨h, ?_⟩
    rw [if_neg h]
    split
    · exact Or.inl rfl
    · exact Or.inr rfl
/-- the heap at the start holds the script and the constants -/
theorem lw_conc {b : Nat} (hE : E.2.2 = s.heap.size) (hbl : b < s.heap.size) : Conc E (fun i => if i = 224 then b else E.1.2 60 i, fun _ => 0) (lw_w0 N xs) s.heap := by
  have only : ∀ i, wT (lw_w0 N xs) i ≠ 0 → wT (lw_w0 N xs) i ≠ 50 → i = 224 := fun i a1 a2 => by
    rcases lw_v (n := N) (ys := xs) i with ⟨-, h⟩ | ⟨-, h | h⟩
    · exact h
    · exact absurd h a2
    · exact absurd h a1
  have no : ∀ i t, t ≠ 0 → t ≠ 50 → t ≠ 51 → wT (lw_w0 N xs) i ≠ t := fun i t a1 a2 a3 h => by
    rcases lw_v (n := N) (ys := xs) i with ⟨g, -⟩ | ⟨-, g | g⟩ <;> omega
  refine ⟨fun i a1 a2 => ?_, fun i j a1 a2 a3 a4 _ => (only i a1 a3).trans (only j a2 a4).symm, fun i => ⟨fun cc hc h => absurd h (no i _ (by omega) (by omega) (by omega)), fun h => absurd h (no i _ (by decide) (by decide) (by decide)), fun h => absurd h (no i _ (by decide) (by decide) (by decide)), fun h => absurd h (no i _ (by decide) (by decide) (by decide)), fun h => absurd h (no i _ (by decide) (by decide) (by decide)), fun h => absurd h (no i _ (by decide) (by decide) (by decide)), fun h => absurd h (no i _ (by decide) (by decide) (by decide)), fun h => ?_, fun h => ?_⟩, fun _ _ _ _ h => (by cases h), fun _ _ _ _ h => (by cases h), fun _ _ _ h => (by cases h), fun i _ h => absurd h (no i _ (by decide) (by decide) (by decide)), fun i _ h => absurd h (no i _ (by decide) (by decide) (by decide))⟩
  · have hi := only i a1 a2
    subst hi
    refine ⟨?_, fun h => by have e : wT (lw_w0 N xs) 224 = 51 := rfl; omega⟩
    show (if 224 = 224 then b else E.1.2 60 224) < s.heap.size
    rw [if_pos rfl]; exact hbl
  · have hi : i ≠ 224 := fun z => by
      subst z
      have e : wT (lw_w0 N xs) 224 = 51 := rfl
      omega
    exact if_neg hi
  · have hi := only i (by omega) (by omega)
    subst hi
    show (if 224 = 224 then b else E.1.2 60 224) < E.2.2
    rw [if_pos rfl, hE]; exact hbl
end LAWG
