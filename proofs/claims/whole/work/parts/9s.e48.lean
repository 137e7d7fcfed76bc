section TL
variable {p : Program} {l : Launch} {e : Env} {R : Room} {s : State} {m : MethodId} {args : Array Value} {below : List Frame} {meth : Method} {c : Code}
variable {E : AE} {S : MS} {mc ms : Nat} {w0 : AW} {ad0 : AM} {Q : AO → AW → Prop}
/-- the script keeps its length: it lies where nobody writes -/
theorem sm_len {pc : Nat} {L : AL} {st : List Value} {w : AW} {b : Nat × Nat} (hC0 : Conc E ad0 w0 s.heap) (h0 : wT w0 224 = 51) (hT : wT w 224 = 51) (hbase : E.2.2 ≤ s.heap.size) (k : wN w 224 = wN w0 224 → Sm p l e R s m args below meth c E S mc ms w0 ad0 Q pc L st w b) : Sm p l e R s m args below meth c E S mc ms w0 ad0 Q pc L st w b := by
  intro ad H locs ls cells slots h1 h2 h3 h4 h5 h6 h7 h8
  refine k ?_ ad H locs ls cells slots h1 h2 h3 h4 h5 h6 h7 h8
  obtain ⟨a1, a2⟩ := (hC0.2.2.1 224).2.2.2.2.2.2.2.2 h0
  obtain ⟨b1, b2⟩ := (h1.2.2.1 224).2.2.2.2.2.2.2.2 hT
  have e1 : ad.1 224 = ad0.1 224 := (h8 224 (by rw [h0]; decide)).2
  have q := h5.2.1 (ad0.1 224) (by omega) (by omega)
  rw [e1, q, a2] at b2
  have z := congrArg (fun x => x.slots.size) (Option.some.inj b2)
  simp only [arrV_size] at z
  exact z.symm
end TL

