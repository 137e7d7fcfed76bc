theorem wLs {w : AW} {t x : Nat} {l : List Nat} (hx : x ≠ t) : wL (sL w t l) x = wL w x := by rw [wL_sL, if_neg hx]
theorem wLe {w : AW} {t : Nat} {l : List Nat} : wL (sL w t l) t = l := by rw [wL_sL, if_pos rfl]
theorem cts {w : AW} {t x : Nat} {l : List Nat} (hx : x ≠ t) : ct (sL w t l) x = ct w x := by unfold ct; rw [wLs hx]
theorem cte {w : AW} {t : Nat} {l : List Nat} : ct (sL w t l) t = l.length := by unfold ct; rw [wLe]
theorem ctm {w : AW} {t x : Nat} {l : List Nat} (h : t = x → ct w x ≤ l.length) : ct w x ≤ ct (sL w t l) x := by
  by_cases e : x = t
  · subst e; rw [cte]; exact h rfl
  · rw [cts e]; exact Nat.le_refl _
theorem LW_s {w : AW} {t x : Nat} {l : List Nat} (hx : x ≠ t) (h : LW w x) : LW (sL w t l) x := ⟨h.1, h.2.1, by rw [wLs hx]; exact h.2.2.1, by rw [wLs hx]; exact h.2.2.2⟩
theorem LW_e {w : AW} {t : Nat} {l : List Nat} (hC : LC w) (hT : wT w t = 40) (hl : l.length ≤ 2190) (he : ∀ q ∈ l, 1 ≤ wT w q ∧ wT w q ≤ 13) : LW (sL w t l) t := ⟨hC, hT, by rw [wLe]; exact hl, by rw [wLe]; exact he⟩
theorem isWk_s {w : AW} {t q : Nat} {l : List Nat} (h1 : t = 201 → ct w 201 ≤ l.length) : isWk w q → isWk (sL w t l) q := fun ⟨n, hn, e⟩ => ⟨n, Nat.lt_of_lt_of_le hn (ctm h1), e⟩
theorem LSt_s {w : AW} {t x b m : Nat} {l : List Nat} (hx : x ≠ t) (h : LSt w x b m) : LSt (sL w t l) x b m := ⟨h.1, by rw [wLs hx, cts hx]; exact h.2.1, by rw [cts hx]; exact h.2.2⟩
theorem WK_s {w : AW} {t n : Nat} {l : List Nat} (ht : 1100 + n ≠ t) (h2 : t = 202 → ct w 202 ≤ l.length) (h : WK w n) : WK (sL w t l) n := by
  obtain ⟨a1, a2, a3, a4, a5, a6, a7⟩ := h
  refine ⟨a1, a2, LW_s ht a3, by rw [wLs ht]; exact a4, a5, a6, ?_⟩
  rcases a7 with h | ⟨r, hr, h⟩
  · exact Or.inl h
  · exact Or.inr ⟨r, Nat.lt_of_lt_of_le hr (ctm h2), h⟩
theorem RMp_s {w : AW} {t r : Nat} {l : List Nat} (ht : 1300 + r ≠ t) (h1 : t = 201 → ct w 201 ≤ l.length) (h3 : t = 203 → ct w 203 ≤ l.length) (h : RMp w r) : RMp (sL w t l) r := by
  obtain ⟨a1, a2, a3, a4, a5, a6⟩ := h
  refine ⟨a1, a2, LW_s ht a3, by rw [wLs ht]; exact fun q hq => isWk_s h1 (a4 q hq), ?_, a6⟩
  rcases a5 with h | ⟨r, hr, h⟩
  · exact Or.inl h
  · exact Or.inr ⟨r, Nat.lt_of_lt_of_le hr (ctm h3), h⟩
theorem CRp_s {w : AW} {t c : Nat} {l : List Nat} (ht : 1800 + c ≠ t) (h1 : t = 201 → ct w 201 ≤ l.length) (h : CRp w c) : CRp (sL w t l) c := by
  obtain ⟨a1, a2, a3, a4, a5⟩ := h
  exact ⟨a1, a2, LW_s ht a3, by rw [wLs ht]; exact fun q hq => isWk_s h1 (a4 q hq), by rw [cts ht]; exact a5⟩
theorem LNp_s {w : AW} {t k : Nat} {l : List Nat} (ht : 2000 + k ≠ t) (h : LNp w k) : LNp (sL w t l) k := by
  obtain ⟨a1, a2, a3, a4, a5, a6, a7⟩ := h
  exact ⟨a1, a2, LW_s ht a3, by rw [wLs ht, cts ht]; exact a4, by rw [cts ht]; exact a5, by rw [cts ht]; exact a6, a7⟩
theorem CIv.bd {w : AW} (h : CIv w) : ct w 201 ≤ 40 ∧ ct w 202 ≤ 20 ∧ ct w 203 ≤ 4 ∧ ct w 204 ≤ 30 ∧ ct w 205 ≤ 20 := ⟨(ci_works h).2.2, (ci_rooms h).2.2, (ci_sheets h).2.2, (ci_loans h).2.2, (ci_crates h).2.2⟩
/-- a work's lines are written anew -/
theorem CIv_lines {w : AW} {n : Nat} {l : List Nat} (h : CIv w) (hn : n < ct w 201) (hl : l.length ≤ 2190) (he : ∀ q ∈ l, wT w q = 6) : CIv (sL w (1100 + n) l) := by
  obtain ⟨b1, b2, b3, b4, b5⟩ := h.bd
  have hBK := ci_BK h
  have hHG := ci_HG h
  refine ⟨h.1, h.2.1, ⟨LSt_s (by omega) (ci_works h), LSt_s (by omega) (ci_rooms h), LSt_s (by omega) (ci_sheets h), LSt_s (by omega) (ci_loans h), LSt_s (by omega) (ci_crates h)⟩, ?_, ?_, ?_, ?_, ?_, hBK, hHG⟩
  · intro m hm
    rw [cts (by omega)] at hm
    by_cases e : m = n
    · subst e
      obtain ⟨a1, a2, a3, a4, a5, a6, a7⟩ := ci_W h hn
      refine ⟨a1, a2, LW_e a3.1 a3.2.1 hl (fun q hq => by have := he q hq; omega), by rw [wLe]; exact he, a5, a6, ?_⟩
      rw [cts (by omega)]; exact a7
    · exact WK_s (by omega) (fun z => by omega) (ci_W h hm)
  · intro r hr
    rw [cts (by omega)] at hr
    exact RMp_s (by omega) (fun z => by omega) (fun z => by omega) (ci_R h hr)
  · intro r hr
    rw [cts (by omega)] at hr
    exact ci_S h hr
  · intro r hr
    rw [cts (by omega)] at hr
    exact LNp_s (by omega) (ci_L h hr)
  · intro r hr
    rw [cts (by omega)] at hr
    exact CRp_s (by omega) (fun z => by omega) (ci_Cr h hr)
/-- the works on a wall -/
theorem CIv_hung {w : AW} {r : Nat} {l : List Nat} (h : CIv w) (hr : r < ct w 202) (hl : l.length ≤ 2190) (he : ∀ q ∈ l, isWk w q) : CIv (sL w (1300 + r) l) := by
  obtain ⟨b1, b2, b3, b4, b5⟩ := h.bd
  have hBK := ci_BK h
  have hHG := ci_HG h
  refine ⟨h.1, h.2.1, ⟨LSt_s (by omega) (ci_works h), LSt_s (by omega) (ci_rooms h), LSt_s (by omega) (ci_sheets h), LSt_s (by omega) (ci_loans h), LSt_s (by omega) (ci_crates h)⟩, ?_, ?_, ?_, ?_, ?_, hBK, hHG⟩
  · intro m hm
    rw [cts (by omega)] at hm
    exact WK_s (by omega) (fun z => by omega) (ci_W h hm)
  · intro m hm
    rw [cts (by omega)] at hm
    by_cases e : m = r
    · subst e
      obtain ⟨a1, a2, a3, a4, a5, a6⟩ := ci_R h hr
      refine ⟨a1, a2, LW_e a3.1 a3.2.1 hl (fun q hq => by obtain ⟨n, hn, rfl⟩ := he q hq; have := (ci_W h hn).1; omega), by rw [wLe]; exact fun q hq => isWk_s (fun z => by omega) (he q hq), ?_, a6⟩
      rw [cts (by omega)]; exact a5
    · exact RMp_s (by omega) (fun z => by omega) (fun z => by omega) (ci_R h hm)
  · intro r hr
    rw [cts (by omega)] at hr
    exact ci_S h hr
  · intro r hr
    rw [cts (by omega)] at hr
    exact LNp_s (by omega) (ci_L h hr)
  · intro r hr
    rw [cts (by omega)] at hr
    exact CRp_s (by omega) (fun z => by omega) (ci_Cr h hr)
/-- what a crate holds -/
theorem CIv_load {w : AW} {c : Nat} {l : List Nat} (h : CIv w) (hc : c < ct w 205) (hl : l.length ≤ 4) (he : ∀ q ∈ l, isWk w q) : CIv (sL w (1800 + c) l) := by
  obtain ⟨b1, b2, b3, b4, b5⟩ := h.bd
  have hBK := ci_BK h
  have hHG := ci_HG h
  refine ⟨h.1, h.2.1, ⟨LSt_s (by omega) (ci_works h), LSt_s (by omega) (ci_rooms h), LSt_s (by omega) (ci_sheets h), LSt_s (by omega) (ci_loans h), LSt_s (by omega) (ci_crates h)⟩, ?_, ?_, ?_, ?_, ?_, hBK, hHG⟩
  · intro m hm
    rw [cts (by omega)] at hm
    exact WK_s (by omega) (fun z => by omega) (ci_W h hm)
  · intro r hr
    rw [cts (by omega)] at hr
    exact RMp_s (by omega) (fun z => by omega) (fun z => by omega) (ci_R h hr)
  · intro r hr
    rw [cts (by omega)] at hr
    exact ci_S h hr
  · intro r hr
    rw [cts (by omega)] at hr
    exact LNp_s (by omega) (ci_L h hr)
  · intro m hm
    rw [cts (by omega)] at hm
    by_cases e : m = c
    · subst e
      obtain ⟨a1, a2, a3, a4, a5⟩ := ci_Cr h hc
      exact ⟨a1, a2, LW_e a3.1 a3.2.1 (by omega) (fun q hq => by obtain ⟨n, hn, rfl⟩ := he q hq; have := (ci_W h hn).1; omega), by rw [wLe]; exact fun q hq => isWk_s (fun z => by omega) (he q hq), by rw [cte]; exact hl⟩
    · exact CRp_s (by omega) (fun z => by omega) (ci_Cr h hm)
theorem CIv_addWork {w : AW} (h : CIv w) (hlt : ct w 201 < 40) (hN : WK w (ct w 201)) : CIv (sL w 201 (wL w 201 ++ [1000 + ct w 201])) := by
  obtain ⟨b1, b2, b3, b4, b5⟩ := h.bd
  have hBK := ci_BK h
  have hHG := ci_HG h
  refine ⟨h.1, h.2.1, ⟨⟨(ci_works h).1, by rw [wLe, cte, List.length_append]; show _ = iota 1000 (ct w 201 + 1); rw [iota_succ, ← (ci_works h).2.1], by rw [cte, List.length_append]; exact hlt⟩, LSt_s (by omega) (ci_rooms h), LSt_s (by omega) (ci_sheets h), LSt_s (by omega) (ci_loans h), LSt_s (by omega) (ci_crates h)⟩, ?_, ?_, ?_, ?_, ?_, hBK, hHG⟩
  · intro m hm
    rw [cte, List.length_append] at hm
    have hm : m < ct w 201 + 1 := hm
    by_cases e : m = ct w 201
    · subst e; exact WK_s (by omega) (fun z => by omega) hN
    · exact WK_s (by omega) (fun z => by omega) (ci_W h (by omega))
  · intro m hm
    rw [cts (by omega)] at hm
    exact RMp_s (by omega) (fun z => by rw [List.length_append]; exact Nat.le_add_right _ _) (fun z => by omega) (ci_R h hm)
  · intro m hm
    rw [cts (by omega)] at hm
    exact id (ci_S h hm)
  · intro m hm
    rw [cts (by omega)] at hm
    exact LNp_s (by omega) (ci_L h hm)
  · intro m hm
    rw [cts (by omega)] at hm
    exact CRp_s (by omega) (fun z => by rw [List.length_append]; exact Nat.le_add_right _ _) (ci_Cr h hm)
theorem CIv_addRoom {w : AW} (h : CIv w) (hlt : ct w 202 < 20) (hN : RMp w (ct w 202)) : CIv (sL w 202 (wL w 202 ++ [1200 + ct w 202])) := by
  obtain ⟨b1, b2, b3, b4, b5⟩ := h.bd
  have hBK := ci_BK h
  have hHG := ci_HG h
  refine ⟨h.1, h.2.1, ⟨LSt_s (by omega) (ci_works h), ⟨(ci_rooms h).1, by rw [wLe, cte, List.length_append]; show _ = iota 1200 (ct w 202 + 1); rw [iota_succ, ← (ci_rooms h).2.1], by rw [cte, List.length_append]; exact hlt⟩, LSt_s (by omega) (ci_sheets h), LSt_s (by omega) (ci_loans h), LSt_s (by omega) (ci_crates h)⟩, ?_, ?_, ?_, ?_, ?_, hBK, hHG⟩
  · intro m hm
    rw [cts (by omega)] at hm
    exact WK_s (by omega) (fun z => by rw [List.length_append]; exact Nat.le_add_right _ _) (ci_W h hm)
  · intro m hm
    rw [cte, List.length_append] at hm
    have hm : m < ct w 202 + 1 := hm
    by_cases e : m = ct w 202
    · subst e; exact RMp_s (by omega) (fun z => by omega) (fun z => by omega) hN
    · exact RMp_s (by omega) (fun z => by omega) (fun z => by omega) (ci_R h (by omega))
  · intro m hm
    rw [cts (by omega)] at hm
    exact id (ci_S h hm)
  · intro m hm
    rw [cts (by omega)] at hm
    exact LNp_s (by omega) (ci_L h hm)
  · intro m hm
    rw [cts (by omega)] at hm
    exact CRp_s (by omega) (fun z => by omega) (ci_Cr h hm)
theorem CIv_addSheet {w : AW} (h : CIv w) (hlt : ct w 203 < 4) (hN : SH w (ct w 203)) : CIv (sL w 203 (wL w 203 ++ [1400 + ct w 203])) := by
  obtain ⟨b1, b2, b3, b4, b5⟩ := h.bd
  have hBK := ci_BK h
  have hHG := ci_HG h
  refine ⟨h.1, h.2.1, ⟨LSt_s (by omega) (ci_works h), LSt_s (by omega) (ci_rooms h), ⟨(ci_sheets h).1, by rw [wLe, cte, List.length_append]; show _ = iota 1400 (ct w 203 + 1); rw [iota_succ, ← (ci_sheets h).2.1], by rw [cte, List.length_append]; exact hlt⟩, LSt_s (by omega) (ci_loans h), LSt_s (by omega) (ci_crates h)⟩, ?_, ?_, ?_, ?_, ?_, hBK, hHG⟩
  · intro m hm
    rw [cts (by omega)] at hm
    exact WK_s (by omega) (fun z => by omega) (ci_W h hm)
  · intro m hm
    rw [cts (by omega)] at hm
    exact RMp_s (by omega) (fun z => by omega) (fun z => by rw [List.length_append]; exact Nat.le_add_right _ _) (ci_R h hm)
  · intro m hm
    rw [cte, List.length_append] at hm
    have hm : m < ct w 203 + 1 := hm
    by_cases e : m = ct w 203
    · subst e; exact id hN
    · exact id (ci_S h (by omega))
  · intro m hm
    rw [cts (by omega)] at hm
    exact LNp_s (by omega) (ci_L h hm)
  · intro m hm
    rw [cts (by omega)] at hm
    exact CRp_s (by omega) (fun z => by omega) (ci_Cr h hm)
theorem CIv_addLoan {w : AW} (h : CIv w) (hlt : ct w 204 < 30) (hN : LNp w (ct w 204)) : CIv (sL w 204 (wL w 204 ++ [1900 + ct w 204])) := by
  obtain ⟨b1, b2, b3, b4, b5⟩ := h.bd
  have hBK := ci_BK h
  have hHG := ci_HG h
  refine ⟨h.1, h.2.1, ⟨LSt_s (by omega) (ci_works h), LSt_s (by omega) (ci_rooms h), LSt_s (by omega) (ci_sheets h), ⟨(ci_loans h).1, by rw [wLe, cte, List.length_append]; show _ = iota 1900 (ct w 204 + 1); rw [iota_succ, ← (ci_loans h).2.1], by rw [cte, List.length_append]; exact hlt⟩, LSt_s (by omega) (ci_crates h)⟩, ?_, ?_, ?_, ?_, ?_, hBK, hHG⟩
  · intro m hm
    rw [cts (by omega)] at hm
    exact WK_s (by omega) (fun z => by omega) (ci_W h hm)
  · intro m hm
    rw [cts (by omega)] at hm
    exact RMp_s (by omega) (fun z => by omega) (fun z => by omega) (ci_R h hm)
  · intro m hm
    rw [cts (by omega)] at hm
    exact id (ci_S h hm)
  · intro m hm
    rw [cte, List.length_append] at hm
    have hm : m < ct w 204 + 1 := hm
    by_cases e : m = ct w 204
    · subst e; exact LNp_s (by omega) hN
    · exact LNp_s (by omega) (ci_L h (by omega))
  · intro m hm
    rw [cts (by omega)] at hm
    exact CRp_s (by omega) (fun z => by omega) (ci_Cr h hm)
theorem CIv_addCrate {w : AW} (h : CIv w) (hlt : ct w 205 < 20) (hN : CRp w (ct w 205)) : CIv (sL w 205 (wL w 205 ++ [1700 + ct w 205])) := by
  obtain ⟨b1, b2, b3, b4, b5⟩ := h.bd
  have hBK := ci_BK h
  have hHG := ci_HG h
  refine ⟨h.1, h.2.1, ⟨LSt_s (by omega) (ci_works h), LSt_s (by omega) (ci_rooms h), LSt_s (by omega) (ci_sheets h), LSt_s (by omega) (ci_loans h), ⟨(ci_crates h).1, by rw [wLe, cte, List.length_append]; show _ = iota 1700 (ct w 205 + 1); rw [iota_succ, ← (ci_crates h).2.1], by rw [cte, List.length_append]; exact hlt⟩⟩, ?_, ?_, ?_, ?_, ?_, hBK, hHG⟩
  · intro m hm
    rw [cts (by omega)] at hm
    exact WK_s (by omega) (fun z => by omega) (ci_W h hm)
  · intro m hm
    rw [cts (by omega)] at hm
    exact RMp_s (by omega) (fun z => by omega) (fun z => by omega) (ci_R h hm)
  · intro m hm
    rw [cts (by omega)] at hm
    exact id (ci_S h hm)
  · intro m hm
    rw [cts (by omega)] at hm
    exact LNp_s (by omega) (ci_L h hm)
  · intro m hm
    rw [cte, List.length_append] at hm
    have hm : m < ct w 205 + 1 := hm
    by_cases e : m = ct w 205
    · subst e; exact CRp_s (by omega) (fun z => by omega) hN
    · exact CRp_s (by omega) (fun z => by omega) (ci_Cr h (by omega))
theorem CIv_sA (w : AW) (k i : Nat) (v : Int32) : CIv (sA w k i v) = CIv w := rfl
theorem CIv_sP (w : AW) (k i : Nat) (v : Option Nat) : CIv (sP w k i v) = CIv w := rfl
theorem CIv_sI647 (w : AW) (i : Nat) (v : Int32) : CIv (sI w 647 i v) = CIv w := rfl
theorem CIv_sI648 (w : AW) (i : Nat) (v : Int32) : CIv (sI w 648 i v) = CIv w := rfl
theorem CIv_sI649 (w : AW) (i : Nat) (v : Int32) : CIv (sI w 649 i v) = CIv w := rfl
theorem CIv_sI195 (w : AW) (i : Nat) (v : Int32) : CIv (sI w 195 i v) = CIv w := rfl
theorem CIv_sI196 (w : AW) (i : Nat) (v : Int32) : CIv (sI w 196 i v) = CIv w := rfl
theorem CIv_sI520 (w : AW) (i : Nat) (v : Int32) : CIv (sI w 520 i v) = CIv w := rfl
theorem CIv_sI521 (w : AW) (i : Nat) (v : Int32) : CIv (sI w 521 i v) = CIv w := rfl
theorem CIv_sI522 (w : AW) (i : Nat) (v : Int32) : CIv (sI w 522 i v) = CIv w := rfl
theorem CIv_sI715 (w : AW) (i : Nat) (v : Int32) : CIv (sI w 715 i v) = CIv w := rfl
theorem CIv_sI716 (w : AW) (i : Nat) (v : Int32) : CIv (sI w 716 i v) = CIv w := rfl
theorem CIv_sI67 (w : AW) (i : Nat) (v : Int32) : CIv (sI w 67 i v) = CIv w := rfl
theorem CIv_sI263 (w : AW) (i : Nat) (v : Int32) : CIv (sI w 263 i v) = CIv w := rfl
theorem CIv_sI264 (w : AW) (i : Nat) (v : Int32) : CIv (sI w 264 i v) = CIv w := rfl
theorem CIv_sI320 (w : AW) (i : Nat) (v : Int32) : CIv (sI w 320 i v) = CIv w := rfl
theorem CIv_sI321 (w : AW) (i : Nat) (v : Int32) : CIv (sI w 321 i v) = CIv w := rfl
theorem CIv_sI322 (w : AW) (i : Nat) (v : Int32) : CIv (sI w 322 i v) = CIv w := rfl
/-- the worlds agree on all things of the first -/
def AG (w w' : AW) : Prop := ∀ x, wT w x ≠ 0 → wT w' x = wT w x ∧ wN w' x = wN w x ∧ wL w' x = wL w x ∧ (∀ k, wR w' k x = wR w k x) ∧ (∀ k, wI w' k x = wI w k x)
theorem AG.T {w w' : AW} (g : AG w w') {x c : Nat} (h : wT w x = c) (hc : c ≠ 0) : wT w' x = c := (g x (by rw [h]; exact hc)).1.trans h
theorem AG.N {w w' : AW} (g : AG w w') {x c : Nat} (h : wT w x = c) (hc : c ≠ 0) : wN w' x = wN w x := (g x (by rw [h]; exact hc)).2.1
theorem AG.L {w w' : AW} (g : AG w w') {x c : Nat} (h : wT w x = c) (hc : c ≠ 0) : wL w' x = wL w x := (g x (by rw [h]; exact hc)).2.2.1
theorem AG.ct {w w' : AW} (g : AG w w') {x c : Nat} (h : wT w x = c) (hc : c ≠ 0) : ct w' x = ct w x := congrArg List.length (g.L h hc)
theorem AG.R {w w' : AW} (g : AG w w') {x c : Nat} (h : wT w x = c) (hc : c ≠ 0) (k : Nat) : wR w' k x = wR w k x := (g x (by rw [h]; exact hc)).2.2.2.1 k
theorem AG.I {w w' : AW} (g : AG w w') {x c : Nat} (h : wT w x = c) (hc : c ≠ 0) (k : Nat) : wI w' k x = wI w k x := (g x (by rw [h]; exact hc)).2.2.2.2 k
theorem AG.nO {w : AW} {i t : Nat} (hi : wT w i = 0) : AG w (nO w i t) := fun x hx => by
  have e : x ≠ i := fun z => hx (by rw [z]; exact hi)
  refine ⟨?_, rfl, ?_, fun k => ?_, fun k => ?_⟩
  · rw [wT_nO, if_neg e]
  · rw [wL_nO, if_neg e]
  · rw [wR_nO, if_neg e]
  · rw [wI_nO, if_neg e]
theorem AG.nA {w : AW} {i t n : Nat} (hi : wT w i = 0) : AG w (nA w i t n) := fun x hx => by
  have e : x ≠ i := fun z => hx (by rw [z]; exact hi)
  refine ⟨?_, ?_, ?_, fun k => ?_, fun k => ?_⟩
  · rw [wT_nA, if_neg e]
  · rw [wN_nA, if_neg e]
  · rw [wL_nA, if_neg e]
  · rw [wR_nA, if_neg e]
  · rw [wI_nA, if_neg e]
theorem AG.lw {w w' : AW} (g : AG w w') (hC : LC w') {t : Nat} (h : LW w t) : LW w' t := by
  obtain ⟨-, a2, a3, a4⟩ := h
  refine ⟨hC, g.T a2 (by decide), by rw [g.L a2 (by decide)]; exact a3, fun q hq => ?_⟩
  rw [g.L a2 (by decide)] at hq
  have := a4 q hq
  rw [(g q (by omega)).1]; exact this
theorem AG.lst {w w' : AW} (g : AG w w') {t b m : Nat} (h : LSt w t b m) : LSt w' t b m := ⟨g.T h.1 (by decide), by rw [g.L h.1 (by decide), g.ct h.1 (by decide)]; exact h.2.1, by rw [g.ct h.1 (by decide)]; exact h.2.2⟩
theorem AG.clp {w w' : AW} (g : AG w w') {t : Nat} (h : CLp w t) : CLp w' t := by
  have e : kdN w' t = kdN w t := by unfold kdN; rw [g.R h.1 (by decide)]
  refine ⟨g.T h.1 (by decide), ?_, ?_⟩
  · rw [g.R h.1 (by decide), e]; exact h.2.1
  · rw [e]; exact h.2.2
theorem AG.wk {w w' : AW} (g : AG w w') (hC : LC w') (h2 : wT w 202 = 40) {n : Nat} (h : WK w n) : WK w' n := by
  obtain ⟨a1, a2, a3, a4, a5, a6, a7⟩ := h
  have aT := a3.2.1
  refine ⟨g.T a1 (by decide), by rw [g.R a1 (by decide)]; exact a2, g.lw hC a3, by rw [g.L aT (by decide)]; exact fun q hq => g.T (a4 q hq) (by decide), by rw [g.I a1 (by decide)]; exact a5, by rw [g.I a1 (by decide)]; exact a6, ?_⟩
  rw [g.R a1 (by decide), g.ct h2 (by decide)]; exact a7
theorem AG.rm {w w' : AW} (g : AG w w') (hC : LC w') (h1 : wT w 201 = 40) (h3 : wT w 203 = 40) {n : Nat} (h : RMp w n) : RMp w' n := by
  obtain ⟨a1, a2, a3, a4, a5, a6⟩ := h
  have aT := a3.2.1
  refine ⟨g.T a1 (by decide), by rw [g.R a1 (by decide)]; exact a2, g.lw hC a3, ?_, ?_, by rw [g.I a1 (by decide)]; exact a6⟩
  · rw [g.L aT (by decide)]
    intro q hq
    obtain ⟨m, hm, e⟩ := a4 q hq
    exact ⟨m, by rw [g.ct h1 (by decide)]; exact hm, e⟩
  · rw [g.R a1 (by decide), g.ct h3 (by decide)]; exact a5
theorem AG.cr {w w' : AW} (g : AG w w') (hC : LC w') (h1 : wT w 201 = 40) {n : Nat} (h : CRp w n) : CRp w' n := by
  obtain ⟨a1, a2, a3, a4, a5⟩ := h
  have aT := a3.2.1
  refine ⟨g.T a1 (by decide), by rw [g.R a1 (by decide)]; exact a2, g.lw hC a3, ?_, by rw [g.ct aT (by decide)]; exact a5⟩
  rw [g.L aT (by decide)]
  intro q hq
  obtain ⟨m, hm, e⟩ := a4 q hq
  exact ⟨m, by rw [g.ct h1 (by decide)]; exact hm, e⟩
theorem AG.ln {w w' : AW} (g : AG w w') (hC : LC w') {n : Nat} (h : LNp w n) : LNp w' n := by
  obtain ⟨a1, a2, a3, a4, a5, a6, a7⟩ := h
  have aT := a3.2.1
  exact ⟨g.T a1 (by decide), by rw [g.R a1 (by decide)]; exact a2, g.lw hC a3, by rw [g.L aT (by decide), g.ct aT (by decide)]; exact a4, by rw [g.ct aT (by decide)]; exact a5, by rw [g.ct aT (by decide)]; exact fun c hc => g.clp (a6 c hc), by rw [g.I a1 (by decide)]; exact a7⟩
theorem AG.sh {w w' : AW} (g : AG w w') {q : Nat} (h : SH w q) : SH w' q := by
  obtain ⟨a1, a2, a3, a4, a5, a6, a7⟩ := h
  exact ⟨g.T a1 (by decide), by rw [g.R a1 (by decide)]; exact a2, g.T a3 (by decide), by rw [g.N a3 (by decide)]; exact a4, by rw [g.R a1 (by decide)]; exact a5, g.T a6 (by decide), by rw [g.N a6 (by decide)]; exact a7⟩
theorem AG.bk {w w' : AW} (g : AG w w') (h : BK w) : BK w' := by
  obtain ⟨b1, ⟨b2, b3, b4⟩, ⟨b5, b6, b7⟩, b8, b9, b10⟩ := h
  exact ⟨g.T b1 (by decide), ⟨by rw [g.R b1 (by decide)]; exact b2, g.T b3 (by decide), by rw [g.N b3 (by decide)]; exact b4⟩, ⟨by rw [g.R b1 (by decide)]; exact b5, g.T b6 (by decide), by rw [g.N b6 (by decide)]; exact b7⟩, by rw [g.R b1 (by decide)]; exact b8, g.T b9 (by decide), by rw [g.N b9 (by decide)]; exact b10⟩
theorem AG.hg {w w' : AW} (g : AG w w') (h : HG w) : HG w' := ⟨g.T h.1 (by decide), fun q hq => by
  obtain ⟨a, b, c⟩ := h.2 q hq
  exact ⟨by rw [g.R h.1 (by decide)]; exact a, g.T b (by decide), by rw [g.N b (by decide)]; exact c⟩⟩
theorem AG.of {w w' : AW} (g : AG w w') (h : OF w) : OF w' := by
  obtain ⟨b1, ⟨b2, b3, b4, b5, b6⟩, ⟨c1, c2, c3⟩, c4, c5, ⟨d1, d2, d3⟩, ⟨d4, d5, d6⟩, d7, d8, d9⟩ := h
  have r := g.R b1 (by decide)
  exact ⟨g.T b1 (by decide), ⟨by rw [r]; exact b2, by rw [r]; exact b3, by rw [r]; exact b4, by rw [r]; exact b5, by rw [r]; exact b6⟩, ⟨by rw [r]; exact c1, g.T c2 (by decide), by rw [g.N c2 (by decide)]; exact c3⟩, by rw [r]; exact c4, by rw [r]; exact c5, ⟨by rw [r]; exact d1, g.T d2 (by decide), by rw [g.N d2 (by decide)]; exact d3⟩, ⟨by rw [r]; exact d4, g.T d5 (by decide), by rw [g.N d5 (by decide)]; exact d6⟩, by rw [r]; exact d7, g.T d8 (by decide), by rw [g.N d8 (by decide)]; exact d9⟩
theorem AG.kc {w w' : AW} (g : AG w w') (h : KC w) : KC w' := ⟨fun k hk => ⟨g.T (h.1 k hk).1 (by decide), g.T (h.1 k hk).2.1 (by decide), g.T (h.1 k hk).2.2 (by decide)⟩, g.T h.2.1 (by decide), g.T h.2.2 (by decide)⟩
theorem AG.lc {w w' : AW} (g : AG w w') (h : LC w) (f1 : wT w' 41 = 0) (f2 : wT w' 42 = 0) : LC w' := ⟨g.T h.1 (by decide), g.T h.2.1 (by decide), f1, f2⟩
theorem AG.ci {w w' : AW} (g : AG w w') (h : CIv w) (f1 : wT w' 41 = 0) (f2 : wT w' 42 = 0) : CIv w' := by
  have hC := g.lc (ci_C h) f1 f2
  have t1 := (ci_works h).1
  have t2 := (ci_rooms h).1
  have t3 := (ci_sheets h).1
  have t4 := (ci_loans h).1
  have t5 := (ci_crates h).1
  refine ⟨⟨hC, g.kc (ci_K h)⟩, g.of h.2.1, ⟨g.lst (ci_works h), g.lst (ci_rooms h), g.lst (ci_sheets h), g.lst (ci_loans h), g.lst (ci_crates h)⟩, fun n hn => ?_, fun n hn => ?_, fun n hn => ?_, fun n hn => ?_, fun n hn => ?_, g.bk (ci_BK h), g.hg (ci_HG h)⟩
  · rw [g.ct t1 (by decide)] at hn
    exact g.wk hC t2 (ci_W h hn)
  · rw [g.ct t2 (by decide)] at hn
    exact g.rm hC t1 t3 (ci_R h hn)
  · rw [g.ct t3 (by decide)] at hn
    exact g.sh (ci_S h hn)
  · rw [g.ct t4 (by decide)] at hn
    exact g.ln hC (ci_L h hn)
  · rw [g.ct t5 (by decide)] at hn
    exact g.cr hC t1 (ci_Cr h hn)
