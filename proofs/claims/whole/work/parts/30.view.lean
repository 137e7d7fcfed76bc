/-! ===== a list's inside: thing 41 is its row, 42 the row that it grows into ===== -/
def opA (w : AW) (i : Nat) (m : Int32) (cap : Nat) : AW := sT (sI (sI (sR (sQ (nA w 41 23 cap) 41 (fun j => (wL w i)[j]?)) 1 i (some 41)) 0 i m) 2 i (Int32.ofNat (wL w i).length)) i 1
def opZ (w : AW) (i : Nat) (m : Int32) : AW := sT (sI (sI (sR w 1 i (some 17)) 0 i m) 2 i 0) i 1
/-- the two worlds agree but for the list i and the rows 41 and 42 -/
def agr (w w1 : AW) (i : Nat) : Prop := ∀ q, q ≠ i → q ≠ 41 → q ≠ 42 → wT w1 q = wT w q ∧ (∀ k, wI w1 k q = wI w k q) ∧ (∀ k, wR w1 k q = wR w k q) ∧ wN w1 q = wN w q ∧ (∀ j, wA w1 q j = wA w q j) ∧ (∀ j, wJ w1 q j = wJ w q j) ∧ (∀ j, wP w1 q j = wP w q j) ∧ wL w1 q = wL w q
theorem arrV_congr {c : ClassId} {N : Nat} {f g : Nat → Value} (h : ∀ j, j < N → f j = g j) : arrV c N f = arrV c N g := by
  unfold arrV
  rw [show (fun j : Fin N => f j.val) = (fun j : Fin N => g j.val) from funext fun j => h j.1 j.2]
section VIEW
variable {E : AE}
theorem Conc.openA {ad : AM} {w : AW} {H : Heap} {i : Nat} (h : Conc E ad w H) (hi : wT w i = 40) (h41 : wT w 41 = 0) (hE : E.2.2 ≤ ad.2 i) : ∃ (m : Int32) (cap : Nat), (wL w i).length ≤ cap ∧ 2 ≤ cap ∧ cap ≤ 100000 ∧ Conc E (up1 ad.1 41 (ad.2 i), ad.2) (opA w i m cap) H := by
  obtain ⟨h1, h2, h3, h4, h5, h6, h7, h8⟩ := h
  obtain ⟨⟨m, g1⟩, g2⟩ := (h3 i).2.2.2.2.2.2.1 hi
  rcases g2 with ⟨-, g, -⟩ | ⟨-, g4, cap, g5, g6, g7, g8⟩
  · omega
  have hi41 : i ≠ 41 := fun z => by rw [z] at hi; omega
  have ad41 : up1 ad.1 41 (ad.2 i) 41 = ad.2 i := by simp [up1]
  have adn : ∀ q, q ≠ 41 → up1 ad.1 41 (ad.2 i) q = ad.1 q := fun q hq => by simp [up1, hq]
  have T1 : wT (opA w i m cap) i = 1 := by unfold opA; rw [wT_sT, if_pos rfl]
  have T41 : wT (opA w i m cap) 41 = 23 := by unfold opA; rw [wT_sT, if_neg (Ne.symm hi41), wT_sI, wT_sI, wT_sR, wT_sQ, wT_nA, if_pos rfl]
  have Tn : ∀ q, q ≠ i → q ≠ 41 → wT (opA w i m cap) q = wT w q := fun q a b => by unfold opA; rw [wT_sT, if_neg a, wT_sI, wT_sI, wT_sR, wT_sQ, wT_nA, if_neg b]
  have Tl : ∀ q, wT w q ≠ 0 → wT (opA w i m cap) q ≠ 0 ∧ q ≠ 41 := fun q hq => by
    have h9 : q ≠ 41 := fun z => hq (by rw [z]; exact h41)
    by_cases hqi : q = i
    · subst hqi; rw [T1]; exact ⟨by decide, h9⟩
    · rw [Tn q hqi h9]; exact ⟨hq, h9⟩
  have P41 : ∀ j, wP (opA w i m cap) 41 j = (wL w i)[j]? := fun j => by unfold opA; rw [wP_sT, wP_sI, wP_sI, wP_sR, wP_sQ, if_pos rfl]
  have Pn : ∀ q j, q ≠ 41 → wP (opA w i m cap) q j = wP w q j := fun q j a => by unfold opA; rw [wP_sT, wP_sI, wP_sI, wP_sR, wP_sQ, if_neg a, wP_nA, if_neg a]
  have Rn : ∀ k q, q ≠ i → q ≠ 41 → wR (opA w i m cap) k q = wR w k q := fun k q a b => by
    unfold opA
    rw [wR_sT, wR_sI, wR_sI, wR_sR, wR_sQ, wR_nA]
    simp [a, b]
  have R41 : ∀ k, wR (opA w i m cap) k 41 = none := fun k => by
    unfold opA
    rw [wR_sT, wR_sI, wR_sI, wR_sR, wR_sQ, wR_nA]
    simp [Ne.symm hi41]
  have R1 : wR (opA w i m cap) 1 i = some 41 := by unfold opA; rw [wR_sT, wR_sI, wR_sI, wR_sR, if_pos rfl, if_pos rfl]
  have Ri : ∀ k, k ≠ 1 → wR (opA w i m cap) k i = wR w k i := fun k a => by unfold opA; rw [wR_sT, wR_sI, wR_sI, wR_sR, if_neg a, wR_sQ, wR_nA, if_neg hi41]
  have In : ∀ k q, q ≠ i → q ≠ 41 → wI (opA w i m cap) k q = wI w k q := fun k q a b => by
    unfold opA
    rw [wI_sT, wI_sI, wI_sI, wI_sR, wI_sQ, wI_nA]
    simp [a, b]
  have I0 : wI (opA w i m cap) 0 i = m := by unfold opA; rw [wI_sT, wI_sI, if_neg (by decide), wI_sI, if_pos rfl, if_pos rfl]
  have I2 : wI (opA w i m cap) 2 i = Int32.ofNat (wL w i).length := by unfold opA; rw [wI_sT, wI_sI, if_pos rfl, if_pos rfl]
  have N41 : wN (opA w i m cap) 41 = cap := by unfold opA; rw [wN_sT, wN_sI, wN_sI, wN_sR, wN_sQ, wN_nA, if_pos rfl]
  have Nn : ∀ q, q ≠ 41 → wN (opA w i m cap) q = wN w q := fun q b => by unfold opA; rw [wN_sT, wN_sI, wN_sI, wN_sR, wN_sQ, wN_nA, if_neg b]
  have An : ∀ q j, q ≠ 41 → wA (opA w i m cap) q j = wA w q j := fun q j b => by unfold opA; rw [wA_sT, wA_sI, wA_sI, wA_sR, wA_sQ, wA_nA, if_neg b]
  have Jn : ∀ q j, q ≠ 41 → wJ (opA w i m cap) q j = wJ w q j := fun q j b => by unfold opA; rw [wJ_sT, wJ_sI, wJ_sI, wJ_sR, wJ_sQ, wJ_nA, if_neg b]
  have Ln : ∀ q, q ≠ 41 → wL (opA w i m cap) q = wL w q := fun q b => by unfold opA; rw [wL_sT, wL_sI, wL_sI, wL_sR, wL_sQ, wL_nA, if_neg b]
  have L41 : wL (opA w i m cap) 41 = [] := by unfold opA; rw [wL_sT, wL_sI, wL_sI, wL_sR, wL_sQ, wL_nA, if_pos rfl]
  have liv : ∀ q, wT (opA w i m cap) q ≠ 0 → q ≠ 41 → wT w q ≠ 0 := fun q hq b => by
    by_cases hqi : q = i
    · subst hqi; omega
    · rw [Tn q hqi b] at hq; exact hq
  refine ⟨m, cap, g5, g6, g7, fun q hq h50 => ?_, fun a b ha hb ha5 hb5 hab => ?_, fun q => ?_, fun k q j hq hr => ?_, fun q k j hq hr => ?_, fun q j hq hr => ?_, fun a b ha hEa hb hb5 => ?_, fun a b ha hb hEa hab => ?_⟩
  · by_cases hq41 : q = 41
    · subst hq41; dsimp only; rw [ad41]; exact ⟨g4, fun _ => hE⟩
    · dsimp only; rw [adn q hq41]
      by_cases hqi : q = i
      · subst hqi; rw [T1]; exact ⟨(h1 q (by omega) (by omega)).1, fun _ => (h1 q (by omega) (by omega)).2 (by omega)⟩
      · rw [Tn q hqi hq41] at hq h50 ⊢; exact h1 q hq h50
  · dsimp only at hab
    have key : ∀ b, wT (opA w i m cap) b ≠ 0 → wT (opA w i m cap) b ≠ 50 → b ≠ 41 → ad.2 i ≠ ad.1 b := fun b hb hb5 hb41 => by
      refine h7 i b hi hE (liv b hb hb41) ?_
      by_cases hbi : b = i
      · subst hbi; omega
      · rw [Tn b hbi hb41] at hb5; exact hb5
    by_cases ha41 : a = 41
    · by_cases hb41 : b = 41
      · rw [ha41, hb41]
      · rw [ha41, ad41, adn b hb41] at hab
        exact absurd hab (key b hb hb5 hb41)
    · by_cases hb41 : b = 41
      · rw [hb41, ad41, adn a ha41] at hab
        exact absurd hab.symm (key a ha ha5 ha41)
      · rw [adn a ha41, adn b hb41] at hab
        refine h2 a b (liv a ha ha41) (liv b hb hb41) ?_ ?_ hab
        · by_cases hai : a = i
          · subst hai; omega
          · rw [Tn a hai ha41] at ha5; exact ha5
        · by_cases hbi : b = i
          · subst hbi; omega
          · rw [Tn b hbi hb41] at hb5; exact hb5
  · by_cases hq41 : q = 41
    · subst hq41
      refine cOK.a23 T41 ?_
      dsimp only
      rw [ad41, g8, N41]
      congr 2
      funext j
      rw [P41]
      cases hr : (wL w i)[j]? with
      | none => rfl
      | some x => rw [Option.map_some, Option.map_some, adn x (Tl x (h6 i x (by omega) (List.mem_of_getElem? hr))).2]
    · by_cases hqi : q = i
      · subst hqi
        refine cOK.obj (c := 0) (by decide) T1 ?_
        dsimp only
        rw [adn q hq41]
        refine g1.to (fun k hk => ?_)
        match k, hk with
        | 0, _ => show Value.int m = Value.int (wI (opA w q m cap) 0 q); rw [I0]
        | 1, _ => show Value.ref (ad.2 q) = va_rf ((wR (opA w q m cap) 1 q).map _); rw [R1]; show _ = Value.ref (up1 ad.1 41 (ad.2 q) 41); rw [ad41]
        | 2, _ => show Value.int _ = Value.int (wI (opA w q m cap) 2 q); rw [I2]
        | k + 3, hk => exact absurd hk (by show ¬ k + 3 < 3; omega)
      · by_cases hd : wT w q = 0
        · exact cOK.dead (by rw [Tn q hqi hq41]; exact hd)
        · exact (h3 q).congr (adn q hq41) (Tn q hqi hq41) (fun k => In k q hqi hq41) (fun k => Rn k q hqi hq41) (fun k j hj => adn j (Tl j (h4 k q j hd hj)).2) (Nn q hq41) (fun j => An q j hq41) (fun j => Jn q j hq41) (fun j => Pn q j hq41) (fun k j hj => adn j (Tl j (h5 q k j hd hj)).2) (Ln q hq41) (fun j hj => adn j (Tl j (h6 q j hd hj)).2) (fun _ => rfl) (fun _ => ⟨rfl, fun _ g => ⟨g, rfl⟩⟩)
  · by_cases hq41 : q = 41
    · subst hq41; rw [R41] at hr; cases hr
    · by_cases hqi : q = i
      · subst hqi
        by_cases hk : k = 1
        · subst hk; rw [R1] at hr; cases hr; rw [T41]; decide
        · rw [Ri k hk] at hr; exact (Tl j (h4 k q j (by omega) hr)).1
      · rw [Rn k q hqi hq41] at hr
        exact (Tl j (h4 k q j (liv q hq hq41) hr)).1
  · by_cases hq41 : q = 41
    · subst hq41; rw [P41] at hr; exact (Tl j (h6 i j (by omega) (List.mem_of_getElem? hr))).1
    · rw [Pn q k hq41] at hr
      exact (Tl j (h5 q k j (liv q hq hq41) hr)).1
  · by_cases hq41 : q = 41
    · subst hq41; rw [L41] at hr; cases hr
    · rw [Ln q hq41] at hr
      exact (Tl j (h6 q j (liv q hq hq41) hr)).1
  · dsimp only at hEa ⊢
    have ha41 : a ≠ 41 := fun z => by rw [z, T41] at ha; omega
    have hai : a ≠ i := fun z => by rw [z, T1] at ha; omega
    rw [Tn a hai ha41] at ha
    by_cases hb41 : b = 41
    · rw [hb41, ad41]; exact fun z => hai (h8 a i ha hi hEa z)
    · rw [adn b hb41]
      refine h7 a b ha hEa (liv b hb hb41) ?_
      by_cases hbi : b = i
      · subst hbi; omega
      · rw [Tn b hbi hb41] at hb5; exact hb5
  · dsimp only at hEa hab
    have ha41 : a ≠ 41 := fun z => by rw [z, T41] at ha; omega
    have hai : a ≠ i := fun z => by rw [z, T1] at ha; omega
    have hb41 : b ≠ 41 := fun z => by rw [z, T41] at hb; omega
    have hbi : b ≠ i := fun z => by rw [z, T1] at hb; omega
    rw [Tn a hai ha41] at ha
    rw [Tn b hbi hb41] at hb
    exact h8 a b ha hb hEa hab
theorem Conc.openZ {ad : AM} {w : AW} {H : Heap} {i : Nat} (h : Conc E ad w H) (hi : wT w i = 40) (h17 : wT w 17 = 50) (hE : ¬ E.2.2 ≤ ad.2 i) : wL w i = [] ∧ ∃ m : Int32, Conc E ad (opZ w i m) H := by
  obtain ⟨h1, h2, h3, h4, h5, h6, h7, h8⟩ := h
  obtain ⟨⟨m, g1⟩, g2⟩ := (h3 i).2.2.2.2.2.2.1 hi
  have g3 : ad.2 i = E.1.2 60 17 ∧ wL w i = [] := by
    rcases g2 with ⟨g2, g, g0⟩ | ⟨g, -⟩
    · exact ⟨g2, g0⟩
    · omega
  obtain ⟨g2, g0⟩ := g3
  have i17 : i ≠ 17 := fun z => by rw [z] at hi; omega
  have T1 : wT (opZ w i m) i = 1 := by unfold opZ; rw [wT_sT, if_pos rfl]
  have Tn : ∀ q, q ≠ i → wT (opZ w i m) q = wT w q := fun q a => by unfold opZ; rw [wT_sT, if_neg a, wT_sI, wT_sI, wT_sR]
  have Tl : ∀ q, wT w q ≠ 0 → wT (opZ w i m) q ≠ 0 := fun q hq => by
    by_cases hqi : q = i
    · subst hqi; rw [T1]; decide
    · rw [Tn q hqi]; exact hq
  have liv : ∀ q, wT (opZ w i m) q ≠ 0 → wT w q ≠ 0 := fun q hq => by
    by_cases hqi : q = i
    · subst hqi; omega
    · rw [Tn q hqi] at hq; exact hq
  have n50 : ∀ q, wT (opZ w i m) q ≠ 50 → wT w q ≠ 50 := fun q hq => by
    by_cases hqi : q = i
    · subst hqi; omega
    · rw [Tn q hqi] at hq; exact hq
  have R1 : wR (opZ w i m) 1 i = some 17 := by unfold opZ; rw [wR_sT, wR_sI, wR_sI, wR_sR, if_pos rfl, if_pos rfl]
  have Ri : ∀ k, k ≠ 1 → wR (opZ w i m) k i = wR w k i := fun k a => by unfold opZ; rw [wR_sT, wR_sI, wR_sI, wR_sR, if_neg a]
  have Rn : ∀ k q, q ≠ i → wR (opZ w i m) k q = wR w k q := fun k q a => by
    unfold opZ
    rw [wR_sT, wR_sI, wR_sI, wR_sR]
    simp [a]
  have In : ∀ k q, q ≠ i → wI (opZ w i m) k q = wI w k q := fun k q a => by
    unfold opZ
    rw [wI_sT, wI_sI, wI_sI, wI_sR]
    simp [a]
  have I0 : wI (opZ w i m) 0 i = m := by unfold opZ; rw [wI_sT, wI_sI, if_neg (by decide), wI_sI, if_pos rfl, if_pos rfl]
  have I2 : wI (opZ w i m) 2 i = 0 := by unfold opZ; rw [wI_sT, wI_sI, if_pos rfl, if_pos rfl]
  refine ⟨g0, m, fun q hq h50 => ?_, fun a b ha hb ha5 hb5 hab => h2 a b (liv a ha) (liv b hb) (n50 a ha5) (n50 b hb5) hab, fun q => ?_, fun k q j hq hr => ?_, fun q k j hq hr => Tl j (h5 q k j (liv q hq) hr), fun q j hq hr => Tl j (h6 q j (liv q hq) hr), fun a b ha hEa hb hb5 => ?_, fun a b ha hb hEa hab => ?_⟩
  · by_cases hqi : q = i
    · subst hqi; exact ⟨(h1 q (by omega) (by omega)).1, fun _ => (h1 q (by omega) (by omega)).2 (by omega)⟩
    · rw [Tn q hqi] at hq h50 ⊢; exact h1 q hq h50
  · by_cases hqi : q = i
    · subst hqi
      refine cOK.obj (c := 0) (by decide) T1 (g1.to (fun k hk => ?_))
      match k, hk with
      | 0, _ => show Value.int m = Value.int (wI (opZ w q m) 0 q); rw [I0]
      | 1, _ =>
        show Value.ref (ad.2 q) = va_rf ((wR (opZ w q m) 1 q).map _)
        rw [R1, g2]
        show _ = Value.ref (ad.1 17)
        rw [(h3 17).2.2.2.2.2.2.2.1 h17]
      | 2, _ => show Value.int (Int32.ofNat (wL w q).length) = Value.int (wI (opZ w q m) 2 q); rw [I2, g0]; rfl
      | k + 3, hk => exact absurd hk (by show ¬ k + 3 < 3; omega)
    · by_cases hd : wT w q = 0
      · exact cOK.dead (by rw [Tn q hqi]; exact hd)
      · exact (h3 q).congr rfl (Tn q hqi) (fun k => In k q hqi) (fun k => Rn k q hqi) (fun _ _ _ => rfl) rfl (fun _ => rfl) (fun _ => rfl) (fun _ => rfl) (fun _ _ _ => rfl) rfl (fun _ _ => rfl) (fun _ => rfl) (fun _ => ⟨rfl, fun _ g => ⟨g, rfl⟩⟩)
  · by_cases hqi : q = i
    · subst hqi
      by_cases hk : k = 1
      · subst hk; rw [R1] at hr; cases hr; exact Tl 17 (by omega)
      · rw [Ri k hk] at hr; exact Tl j (h4 k q j (by omega) hr)
    · rw [Rn k q hqi] at hr
      exact Tl j (h4 k q j (liv q hq) hr)
  · have hai : a ≠ i := fun z => by rw [z, T1] at ha; omega
    rw [Tn a hai] at ha
    exact h7 a b ha hEa (liv b hb) (n50 b hb5)
  · have hai : a ≠ i := fun z => by rw [z, T1] at ha; omega
    have hbi : b ≠ i := fun z => by rw [z, T1] at hb; omega
    rw [Tn a hai] at ha
    rw [Tn b hbi] at hb
    exact h8 a b ha hb hEa hab
/-- an opened list is closed again -/
theorem Conc.close {ad ad1 : AM} {w w1 : AW} {H H1 : Heap} {i Y : Nat} {xs : List Nat} (h : Conc E ad w H) (h9 : Conc E ad1 w1 H1) (hT : wT w i = 40 ∨ (wT w i = 1 ∧ wL w i = [])) (h41 : wT w 41 = 0) (h42 : wT w 42 = 0) (hag : agr w w1 i) (hT1 : wT w1 i = 1) (hR : wR w1 1 i = some Y) (hI : wI w1 2 i = Int32.ofNat xs.length) (hlx : ∀ q ∈ xs, wT w q ≠ 0)
    (hY : (Y = 17 ∧ xs = [] ∧ wT w1 17 = 50 ∧ E.1.2 60 17 < E.2.2) ∨ ((Y = 41 ∨ Y = 42) ∧ wT w1 Y = 23 ∧ xs.length ≤ wN w1 Y ∧ 2 ≤ wN w1 Y ∧ wN w1 Y ≤ 100000 ∧ ∀ j, j < wN w1 Y → wP w1 Y j = xs[j]?)) : Conc E (ad1.1, up1 ad1.2 i (ad1.1 Y)) (sL (sT w i 40) i xs) H1 := by
  obtain ⟨h1, h2, h3, h4, h5, h6, h7, h8⟩ := h
  obtain ⟨k1, k2, k3, k4, k5, k6, k7, k8⟩ := h9
  have hTi : wT w i ≠ 0 := by rcases hT with z | z <;> omega
  have hi41 : i ≠ 41 := fun z => hTi (by rw [z]; exact h41)
  have hi42 : i ≠ 42 := fun z => hTi (by rw [z]; exact h42)
  have T2 : ∀ q, wT (sL (sT w i 40) i xs) q = if q = i then 40 else wT w q := fun q => by rw [wT_sL, wT_sT]
  have T2i : wT (sL (sT w i 40) i xs) i = 40 := by rw [T2, if_pos rfl]
  have T2n : ∀ q, q ≠ i → wT (sL (sT w i 40) i xs) q = wT w q := fun q hq => by rw [T2, if_neg hq]
  have l2 : ∀ q, wT (sL (sT w i 40) i xs) q ≠ 0 → wT w q ≠ 0 := fun q hq => by
    by_cases hqi : q = i
    · rw [hqi]; exact hTi
    · rw [T2n q hqi] at hq; exact hq
  have l3 : ∀ q, wT w q ≠ 0 → wT (sL (sT w i 40) i xs) q ≠ 0 := fun q hq => by
    by_cases hqi : q = i
    · rw [hqi, T2i]; decide
    · rw [T2n q hqi]; exact hq
  have n4 : ∀ q, wT w q ≠ 0 → q ≠ 41 ∧ q ≠ 42 := fun q hq => ⟨fun z => hq (by rw [z]; exact h41), fun z => hq (by rw [z]; exact h42)⟩
  have l1 : ∀ q, wT (sL (sT w i 40) i xs) q ≠ 0 → wT w1 q ≠ 0 := fun q hq => by
    by_cases hqi : q = i
    · rw [hqi, hT1]; decide
    · obtain ⟨a, b⟩ := n4 q (l2 q hq)
      rw [(hag q hqi a b).1]; exact l2 q hq
  have n5 : ∀ q, wT (sL (sT w i 40) i xs) q ≠ 0 → wT (sL (sT w i 40) i xs) q ≠ 50 → wT w1 q ≠ 50 := fun q hq h50 => by
    by_cases hqi : q = i
    · rw [hqi, hT1]; decide
    · obtain ⟨a, b⟩ := n4 q (l2 q hq)
      rw [(hag q hqi a b).1, ← T2n q hqi]; exact h50
  have li1 : ∀ q, q ≠ i → wT w q = 40 → wT w1 q = 40 := fun q hqi hq => by
    obtain ⟨a, b⟩ := n4 q (by omega)
    rw [(hag q hqi a b).1]; exact hq
  have upi : up1 ad1.2 i (ad1.1 Y) i = ad1.1 Y := by simp [up1]
  have upn : ∀ q, q ≠ i → up1 ad1.2 i (ad1.1 Y) q = ad1.2 q := fun q hq => by simp [up1, hq]
  have Yd : E.2.2 ≤ ad1.1 Y → (Y = 41 ∨ Y = 42) ∧ wT w1 Y = 23 := fun hE => by
    rcases hY with ⟨rfl, -, hT17, h17⟩ | ⟨a, b, -⟩
    · rw [(k3 17).2.2.2.2.2.2.2.1 hT17] at hE; omega
    · exact ⟨a, b⟩
  refine ⟨fun q hq h50 => ?_, fun a b ha hb ha5 hb5 hab => k2 a b (l1 a ha) (l1 b hb) (n5 a ha ha5) (n5 b hb hb5) hab, fun q => ?_, fun k q j hq hr => l3 j (h4 k q j (l2 q hq) hr), fun q k j hq hr => l3 j (h5 q k j (l2 q hq) hr), fun q j hq hr => ?_, fun a b ha hEa hb hb5 => ?_, fun a b ha hb hEa hab => ?_⟩
  · have h0 := k1 q (l1 q hq) (n5 q hq h50)
    refine ⟨h0.1, fun h5 => h0.2 ?_⟩
    by_cases hqi : q = i
    · rw [hqi, hT1]; decide
    · obtain ⟨a, b⟩ := n4 q (l2 q hq)
      rw [(hag q hqi a b).1, ← T2n q hqi]; exact h5
  · by_cases hqi : q = i
    · subst hqi
      refine cOK.l40 T2i ⟨⟨wI w1 0 q, ?_⟩, ?_⟩
      · refine ((k3 q).1 0 (by decide) hT1).to (fun k hk => ?_)
        match k, hk with
        | 0, _ => rfl
        | 1, _ => show va_rf ((wR w1 1 q).map ad1.1) = Value.ref (up1 ad1.2 q (ad1.1 Y) q); rw [hR, upi]; rfl
        | 2, _ => show Value.int (wI w1 2 q) = Value.int (Int32.ofNat (wL (sL (sT w q 40) q xs) q).length); rw [wL_sL, if_pos rfl, hI]
        | k + 3, hk => exact absurd hk (by show ¬ k + 3 < 3; omega)
      · dsimp only
        rw [upi, wL_sL, if_pos rfl]
        rcases hY with ⟨rfl, hx, hT17, h17⟩ | ⟨-, b, c1, c2, c3, c4⟩
        · rw [(k3 17).2.2.2.2.2.2.2.1 hT17]; exact Or.inl ⟨rfl, h17, hx⟩
        · have h0 := k1 Y (by omega) (by omega)
          refine Or.inr ⟨h0.2 (by omega), h0.1, wN w1 Y, c1, c2, c3, ?_⟩
          rw [(k3 Y).2.2.2.2.1 b]
          refine congrArg some (arrV_congr (fun j hj => ?_))
          rw [c4 j hj]
    · by_cases hd : wT w q = 0
      · exact cOK.dead (by rw [T2n q hqi]; exact hd)
      · obtain ⟨a, b⟩ := n4 q hd
        obtain ⟨e1, e2, e3, e4, e5, e6, e7, e8⟩ := hag q hqi a b
        refine (k3 q).congr rfl (by rw [T2n q hqi, e1]) (fun k => by rw [e2]; rfl) (fun k => by rw [e3]; rfl) (fun _ _ _ => rfl) (by rw [e4]; rfl) (fun j => by rw [e5]; rfl) (fun j => by rw [e6]; rfl) (fun j => by rw [e7]; rfl) (fun _ _ _ => rfl) (by rw [e8, wL_sL, if_neg hqi]; rfl) (fun _ _ => rfl) (fun _ => rfl) (fun _ => ⟨upn q hqi, fun _ g => ⟨g, rfl⟩⟩)
  · rw [wL_sL] at hr
    by_cases hqi : q = i
    · rw [if_pos hqi] at hr; exact l3 j (hlx j hr)
    · rw [if_neg hqi] at hr; exact l3 j (h6 q j (l2 q hq) hr)
  · dsimp only at hEa ⊢
    by_cases hai : a = i
    · subst hai
      rw [upi] at hEa ⊢
      obtain ⟨y1, y2⟩ := Yd hEa
      intro z
      have e := k2 Y b (by omega) (l1 b hb) (by omega) (n5 b hb hb5) z
      obtain ⟨b1, b2⟩ := n4 b (l2 b hb)
      rcases y1 with y1 | y1
      · exact b1 (by rw [← e]; exact y1)
      · exact b2 (by rw [← e]; exact y1)
    · rw [upn a hai] at hEa ⊢
      rw [T2n a hai] at ha
      exact k7 a b (li1 a hai ha) hEa (l1 b hb) (n5 b hb hb5)
  · dsimp only at hEa hab
    by_cases hai : a = i
    · by_cases hbi : b = i
      · rw [hai, hbi]
      · subst hai
        rw [upi] at hEa hab
        rw [upn b hbi] at hab
        obtain ⟨y1, y2⟩ := Yd hEa
        rw [T2n b hbi] at hb
        exact absurd hab.symm (k7 b Y (li1 b hbi hb) (by rw [← hab]; exact hEa) (by omega) (by omega))
    · rw [upn a hai] at hEa hab
      rw [T2n a hai] at ha
      by_cases hbi : b = i
      · subst hbi
        rw [upi] at hab
        obtain ⟨y1, y2⟩ := Yd (by rw [← hab]; exact hEa)
        exact absurd hab (k7 a Y (li1 a hai ha) hEa (by omega) (by omega))
      · rw [upn b hbi] at hab
        rw [T2n b hbi] at hb
        exact k8 a b (li1 a hai ha) (li1 b hbi hb) hEa hab
end VIEW
/-- another view of the world ahead of a call and behind it -/
theorem MA.view {l : Launch} {E : AE} {y : MethodName} {cc : ByteArray} {maxL : Nat} {ret : Option FieldType} {fr lo mc ms : Nat} {as : List Value} {w : AW} {Q : AO → AW → Prop}
    (h : ∀ (ad : AM) (H : Heap), Conc E ad w H → E.1.2 60 17 < E.2.2 → ∃ (ad' : AM) (w' : AW) (Q' : AO → AW → Prop), MA l E y cc maxL ret fr lo mc ms as w' Q' ∧ Conc E ad' w' H ∧ (∀ v ∈ as, cv ad' v = cv ad v ∧ lvv w' v) ∧
      ∀ (o : AO) (w1 : AW) (ad1 : AM) (H1 : Heap), Q' o w1 → Conc E ad1 w1 H1 → mExt ad' w' ad1 w1 → (∀ v, o = .inl (some v) → lvv w1 v) → ∃ (w2 : AW) (ad2 : AM), Q o w2 ∧ Conc E ad2 w2 H1 ∧ mExt ad w ad2 w2 ∧ ∀ v, o = .inl (some v) → cv ad2 v = cv ad1 v ∧ lvv w2 v) : MA l E y cc maxL ret fr lo mc ms as w Q := by
  intro hst ad has p e a1 a2 a3 s m args below a4 a5 a6 a7
  have a70 : mPc E ad w as args s := a6
  obtain ⟨v1, v2, v3, v4, v5⟩ := a70
  obtain ⟨ad', w', Q', hM, hC, hv, hout⟩ := h ad _ v2 (Nat.lt_of_not_le v5.2.2.2.2.2.2.2.2.1.2.out)
  have a7' : mPc E ad' w' as args s := ⟨by rw [v1]; congr 1; exact List.map_congr_left (fun v hvm => (hv v hvm).1.symm), hC, v3, v4, v5⟩
  obtain ⟨n, o, b1, b2, b3, b4⟩ := hM hst ad' (fun v hvm => (hv v hvm).2) p e a1 a2 a3 s m args below a4 a5 a7' a7
  refine ⟨n, o, b1, b2, b3, ?_⟩
  rcases b4 with ⟨⟨r, w1, ad1, c1, c2, c3, c4, c5, c6⟩, h2⟩ | ⟨q, c0, Ec, ce, L1, ⟨w1, ad1, c1, c2, c3, c4⟩, c5⟩
  · obtain ⟨w2, ad2, d1, d2, d3, d4⟩ := hout (.inl r) w1 ad1 _ c2 c3 c4 (fun v hv => c5 v (by cases hv; rfl))
    refine Or.inl ⟨⟨r, w2, ad2, ?_, d1, d2, d3, fun v hv => (d4 v (by rw [hv])).2, c6⟩, h2⟩
    rw [c1]
    cases r with
    | none => rfl
    | some v => rw [Option.map_some, Option.map_some, (d4 v rfl).1]
  · obtain ⟨w2, ad2, d1, d2, d3, -⟩ := hout (.inr Ec) w1 ad1 _ c1 c2 c3 (fun v hv => by cases hv)
    exact Or.inr ⟨q, c0, Ec, ce, L1, ⟨w2, ad2, d1, d2, d3, c4⟩, c5⟩
