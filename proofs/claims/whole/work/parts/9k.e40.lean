theorem skp_stop (f : Nat → Int32) : ∀ m k, skp f m k = k + m ∨ ¬ f (skp f m k) = 32
  | 0, k => Or.inl rfl
  | m + 1, k => by
    rw [skp]
    by_cases z : f k = 32
    · rw [if_pos z]
      rcases skp_stop f m (k + 1) with e | e
      · exact Or.inl (by omega)
      · exact Or.inr e
    · rw [if_neg z]; exact Or.inr z
theorem sp_sp {f : Nat → Int32} {n a : Nat} (ha : a ≤ n) : sp f n (sp f n a) = sp f n a := by
  have h := sp_le (f := f) ha
  have q : sp f n a = a + (n - a) ∨ ¬ f (sp f n a) = 32 := skp_stop f (n - a) a
  show skp f (n - sp f n a) (sp f n a) = sp f n a
  by_cases z : sp f n a = n
  · rw [show n - sp f n a = 0 by omega]; rfl
  · obtain ⟨m, em⟩ : ∃ m, n - sp f n a = m + 1 := ⟨n - sp f n a - 1, by omega⟩
    rw [em, skp, if_neg (q.resolve_left (by omega))]
theorem nI_ne {p : Nat} (h : p ≤ 200) : ¬ nI p = -1 := fun z => by
  have q2 : (nI p) < 0 := by rw [z]; decide
  exact absurd q2 (Int32.not_lt.mpr (nI_0le (by omega)))
theorem hr_eq {T f : Nat → Int32} {n a : Nat} {c : Int32} (h : BY T f n) (h0 : 0 < c) (h1 : c ≤ 127) : (sp f n a < n ∧ T (sp f n a) = c) ↔ hr f n a = c := by
  unfold hr
  by_cases z : sp f n a < n
  · rw [if_pos z, h.eq z (Int32.le_of_lt h0) h1]
    exact ⟨fun y => y.2, fun y => ⟨z, y⟩⟩
  · rw [if_neg z]
    exact ⟨fun y => absurd y.1 z, fun y => by rw [← y] at h0; exact absurd h0 (by decide)⟩
theorem sg_eq {T f : Nat → Int32} {n a : Nat} {c : Int32} (h : BY T f n) (ha : a ≤ n) (h0 : 0 < c) (h1 : c ≤ 127) : sgS T n c (a, -1) = if hr f n a = c then (sp f n a + 1, -1) else (sp f n a, nI (sp f n a)) := by
  unfold sgS
  have e : (skS T n (a, -1)).1 = sp f n a := by rw [skS_eq h ha]
  rw [if_pos rfl, e]
  by_cases z : hr f n a = c
  · rw [if_pos z, if_pos ((hr_eq h h0 h1).mpr z)]
  · rw [if_neg z, if_neg (fun y => z ((hr_eq h h0 h1).mp y))]
theorem dgh_eq {T f : Nat → Int32} {n a : Nat} (h : BY T f n) : dgP T n (sp f n a) ↔ (48 ≤ hr f n a ∧ hr f n a ≤ 57) := by
  rw [dg_eq h]
  unfold hr
  by_cases z : sp f n a < n
  · rw [if_pos z]; exact ⟨fun y => y.2, fun y => ⟨z, y⟩⟩
  · rw [if_neg z]; exact ⟨fun y => absurd y.1 z, fun y => absurd y.1 (by decide)⟩
theorem rci_sp {f : Nat → Int32} {n a : Nat} (ha : a ≤ n) (d : Nat) (c : Int32) : rci f n (d + 1) (sp f n a) c = rci f n (d + 1) a c := by
  rw [rci, rci, sp_sp ha]
/-- the cities of a clause -/
theorem ci_eq {T f : Nat → Int32} {n : Nat} (h : BY T f n) (hn : n ≤ 200) : ∀ N a d1 d2 c bb, n - a < N → a ≤ n → N + 1 ≤ d1 → N ≤ d2 → (bb = true ∨ dgP T n (sp f n a)) → (ciF T n d1 bb (a, -1) c).1.2 = (rci f n d2 a c).2.1 ∧ ((rci f n d2 a c).2.1 = -1 → (ciF T n d1 bb (a, -1) c).1.1 = (rci f n d2 a c).1 ∧ (ciF T n d1 bb (a, -1) c).2 = (rci f n d2 a c).2.2)
  | 0, a, d1, d2, c, bb, h1, _, _, _, _ => absurd h1 (Nat.not_lt_zero _)
  | N + 1, a, d1, d2, c, bb, h1, ha, h3, h4, h5 => by
    obtain ⟨e1, rfl⟩ : ∃ e, d1 = e + 1 := ⟨d1 - 1, by omega⟩
    obtain ⟨e2, rfl⟩ : ∃ e, d2 = e + 1 := ⟨d2 - 1, by omega⟩
    obtain ⟨e3, rfl⟩ : ∃ e, e1 = e + 1 := ⟨e1 - 1, by omega⟩
    have hsa := sp_le (f := f) ha
    have esk : ∀ b : Int32, skS T n (a, b) = (sp f n a, b) := fun b => skS_eq h ha
    have eB : nmS T n 4 (ciB T n bb (a, -1)) = ((dgF f n 4 (sp f n a)).2.1, (dgF f n 4 (sp f n a)).2.2) ∧ nmV T n (ciB T n bb (a, -1)) = (dgF f n 4 (sp f n a)).1 := by
      unfold ciB
      cases bb
      · rw [if_neg (by decide), esk]
        have q := nm_eq h hn (s := (sp f n a, -1)) hsa.2 rfl 4
        rw [sp_sp ha] at q; exact q
      · rw [if_pos rfl]; exact nm_eq h hn ha rfl 4
    rw [ciF, if_pos rfl, esk, if_pos h5, eB.1, eB.2, rci]
    have hp := dgF_le (f := f) (most := 4) hsa.2
    have hg := fun z => dgF_gt (f := f) (most := 4) hsa.2 hn z
    revert hp hg
    generalize dgF f n 4 (sp f n a) = D
    obtain ⟨v, p, b⟩ := D
    intro hp hg
    dsimp only at *
    by_cases z : b = -1
    · subst z
      have hp2 := hg rfl
      rw [if_pos rfl, if_pos rfl]
      by_cases y : 48 ≤ hr f n p ∧ hr f n p ≤ 57
      · rw [if_pos y]
        have hd := (dgh_eq (a := p) h).mpr y
        have hspn : sp f n p < n := hd.1
        have hspp := sp_le (f := f) hp.2
        obtain ⟨e4, rfl⟩ : ∃ e, e2 = e + 1 := ⟨e2 - 1, by omega⟩
        rw [rci_sp hp.2]
        exact ci_eq h hn N p (e3 + 1) (e4 + 1) _ false (by omega) hp.2 (by omega) (by omega) (Or.inr hd)
      · rw [if_neg y, ciF, if_pos rfl, skS_eq h hp.2, if_neg (fun q => q.elim (by decide) (fun q => y ((dgh_eq h).mp q)))]
        exact ⟨rfl, fun _ => ⟨rfl, rfl⟩⟩
    · rw [if_neg z, if_neg z, ciF, if_neg z]
      exact ⟨rfl, fun q => absurd q z⟩
/-- what a clause says, before its end -/
theorem clB_eq {T f : Nat → Int32} {n e j : Nat} (h : BY T f n) (hn : n ≤ 200) (he : e ≤ n) (h0 : 2 ≤ e) (hj : j < 6) : (clB T n (e, -1) j).1.2 = (cA f n (nI j) e).2.1 ∧ ((cA f n (nI j) e).2.1 = -1 → sp f n (clB T n (e, -1) j).1.1 = sp f n (cA f n (nI j) e).1 ∧ (clB T n (e, -1) j).1.1 ≤ n ∧ (clA T n (e, -1) j).2 = (cA f n (nI j) e).2.2.1 ∧ (clB T n (e, -1) j).2 = (cA f n (nI j) e).2.2.2) := by
  by_cases c0 : j = 0
  · subst c0
    have hA : clA T n (e, -1) 0 = ciF T n 200 true (e, -1) 0 := rfl
    have hB : clB T n (e, -1) 0 = ((clA T n (e, -1) 0).1, 0) := rfl
    have hX : cA f n (nI 0) e = ((rci f n (n + 1 - e) e 0).1, (rci f n (n + 1 - e) e 0).2.1, (rci f n (n + 1 - e) e 0).2.2, 0) := by
      unfold cA; rw [if_pos (show nI 0 = 0 from rfl)]
    obtain ⟨q1, q2⟩ := ci_eq h hn (n + 1 - e) e 200 (n + 1 - e) 0 true (by omega) he (by omega) (Nat.le_refl _) (Or.inl rfl)
    have hle := ciF_le (T := T) (n := n) 200 true (e, -1) 0 he
    rw [hB, hX, hA]
    refine ⟨q1, fun z => ?_⟩
    obtain ⟨q3, q4⟩ := q2 z
    exact ⟨by show sp f n (ciF T n 200 true (e, -1) 0).1.1 = _; rw [q3], hle, q4, rfl⟩
  · have nj0 : ¬ nI j = 0 := fun z => c0 ((nI_eq (b := 0) (by omega) (by decide)).mp z)
    have e5 : (if nI j = 5 then (9 : Int32) else 999999) = (if j = 5 then 9 else 999999) := by
      by_cases z : j = 5
      · rw [if_pos z, z]; rfl
      · rw [if_neg z, if_neg (show ¬ nI j = 5 from fun y => z ((nI_eq (b := 5) (by omega) (by decide)).mp y))]
    have hA : clA T n (e, -1) j = (nmS T n (if j = 5 then 9 else 999999) (e, -1), nmV T n (e, -1)) := by
      unfold clA; rw [if_neg c0]
    have q := nm_eq h hn (s := (e, -1)) he rfl (if j = 5 then 9 else 999999)
    have hse := sp_le (f := f) he
    have hp := dgF_le (f := f) (most := (if j = 5 then 9 else 999999)) hse.2
    unfold clB cA
    rw [hA, q.1, q.2, if_neg nj0, e5]
    dsimp only
    revert hp
    generalize dgF f n (if j = 5 then 9 else 999999) (sp f n e) = D
    obtain ⟨v, p, b⟩ := D
    intro hp
    dsimp only at *
    by_cases c3 : j = 3
    · have n3 : nI j = 3 := by rw [c3]; rfl
      rw [if_pos c3]
      by_cases z : b = -1
      · subst z
        rw [if_pos ⟨n3, rfl⟩, sg_eq h hp.2 (by decide) (by decide)]
        by_cases y : hr f n p = 45
        · rw [if_pos y, if_pos y]
          have hsp := sp_le (f := f) hp.2
          have hlt : sp f n p < n := by
            by_cases x : sp f n p < n
            · exact x
            · unfold hr at y; rw [if_neg x] at y; exact absurd y (by decide)
          have q2 := nm_eq h hn (s := (sp f n p + 1, -1)) (show sp f n p + 1 ≤ n by omega) rfl 999999
          rw [q2.1, q2.2]
          have hs2 := sp_le (f := f) (show sp f n p + 1 ≤ n by omega)
          have hp2 := dgF_le (f := f) (most := 999999) hs2.2
          exact ⟨rfl, fun _ => ⟨rfl, hp2.2, rfl, rfl⟩⟩
        · rw [if_neg y, if_neg y]
          have hsp := sp_le (f := f) hp.2
          have nz : ¬ nI (sp f n p) = -1 := nI_ne (by omega)
          have e6 : nmS T n 999999 (sp f n p, nI (sp f n p)) = (sp f n p, nI (sp f n p)) := by
            unfold nmS; rw [if_neg nz]
          rw [e6]
          exact ⟨rfl, fun x => absurd x nz⟩
      · have e7 : sgS T n 45 (p, b) = (p, b) := by unfold sgS; rw [if_neg z]
        have e8 : nmS T n 999999 (p, b) = (p, b) := by unfold nmS; rw [if_neg z]
        rw [if_neg (fun x => z x.2), e7, e8]
        exact ⟨rfl, fun x => absurd x z⟩
    · have n3 : ¬ nI j = 3 := fun y => c3 ((nI_eq (b := 3) (by omega) (by decide)).mp y)
      rw [if_neg c3, if_neg (fun x => n3 x.1)]
      exact ⟨rfl, fun _ => ⟨rfl, hp.2, rfl, rfl⟩⟩
/-- a whole clause behind its word -/
theorem cl_eq {T f : Nat → Int32} {n e j : Nat} (h : BY T f n) (hn : n ≤ 200) (he : e ≤ n) (h0 : 2 ≤ e) (hj : j < 6) : (clS T n (e, -1) j).2 = (cE f n ((cA f n (nI j) e).1, (cA f n (nI j) e).2.1)).2 ∧ ((cE f n ((cA f n (nI j) e).1, (cA f n (nI j) e).2.1)).2 = -1 → (clS T n (e, -1) j).1 = (cE f n ((cA f n (nI j) e).1, (cA f n (nI j) e).2.1)).1 + 1 ∧ (clA T n (e, -1) j).2 = (cA f n (nI j) e).2.2.1 ∧ (clB T n (e, -1) j).2 = (cA f n (nI j) e).2.2.2) := by
  obtain ⟨q1, q2⟩ := clB_eq h hn he h0 hj
  unfold clS cE
  dsimp only
  by_cases z : (cA f n (nI j) e).2.1 = -1
  · obtain ⟨q3, q4, q5, q6⟩ := q2 z
    have eS : (clB T n (e, -1) j).1 = ((clB T n (e, -1) j).1.1, -1) := Prod.ext rfl (q1.trans z)
    have eh : hr f n (clB T n (e, -1) j).1.1 = hr f n (cA f n (nI j) e).1 := by unfold hr; rw [q3]
    have hsp := sp_le (f := f) q4
    rw [if_pos z, eS, sg_eq h q4 (by decide) (by decide), eh, q3]
    by_cases y : hr f n (cA f n (nI j) e).1 = 59
    · rw [if_pos y, if_pos y]; exact ⟨rfl, fun _ => ⟨rfl, q5, q6⟩⟩
    · rw [if_neg y, if_neg y]
      exact ⟨rfl, fun x => absurd x (nI_ne (by omega))⟩
  · rw [if_neg z]
    have e7 : sgS T n 59 (clB T n (e, -1) j).1 = (clB T n (e, -1) j).1 := by
      unfold sgS; rw [if_neg (by rw [q1]; exact z)]
    rw [e7]
    exact ⟨q1, fun x => absurd x z⟩

