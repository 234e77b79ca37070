-- THE CLASS: tests and reads
theorem c_isWithin {Γ : GG} {d : Nat} {m : MI} {n : ML} {post : PO} {v a b : Int} (hv : InR v) (ha : InR a) (hb : InR b) (K1 : a ≤ v → v ≤ b → post (some (vi 1)) m n) (K0 : v < a ∨ b < v → post (some (vi 0)) m n) : CM Γ d 88 [vi v, vi a, vi b] m n post := by
  refine e88 ?_
  refine b88_0 hv ha (fun h => ?_) (fun h => ?_)
  · exact b88_14 (b88_15 (Or.inl rfl) (K0 (Or.inl h)))
  · refine b88_5 hv hb (fun h2 => ?_) (fun h2 => ?_)
    · exact b88_14 (b88_15 (Or.inl rfl) (K0 (Or.inr h2)))
    · exact b88_10 (b88_15 (Or.inr rfl) (K1 (by omega) (by omega)))
