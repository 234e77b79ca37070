-- the law: its loop over the calls
theorem wrd_in {Γ : GG} {m : MI} (h : m 0 = gS Γ) (hg : ∀ j, InR (gS Γ 0 j)) (j : Int) : InR (m 0 0 j) := by
  rw [h]
  exact hg j
theorem law_c0 {Γ : GG} {m : MI} {n : ML} {t : Int} {P : PO} (hS : Sim t m m) (ht : 0 ≤ t ∧ t ≤ 511) (hg : ∀ j, InR (gS Γ 0 j)) (hL : 4 * t + 4 ≤ gS Γ 1 0) (Kk : ∀ m n, Sim (t + 1) m m → AM Γ 10 0 843 [some (vr 0 0), some (vr 1 0), some (vr 25 0), some (vi (4 * t))] [] m n P) : AM Γ 10 0 148 [some (vr 0 0), some (vr 1 0), some (vr 25 0), some (vi (4 * t))] [] m n P :=
  AM.w0 fun h0 _ _ => by
  refine b0_148 (d := 9) (by rw [h0]; omega) (by rw [h0]; omega) (by rw [h0]; omega) (CM.mono (op_setPages (d := 4) hS (wrd_in h0 hg _) (wrd_in h0 hg _) (wrd_in h0 hg _)) fun r1 m1 n1 h1 => ?_)
  obtain ⟨x, hx, rfl, h1⟩ := h1
  refine AM.w0 fun h2 _ _ => b0_167 (d := 9) (s0 := x) (by rw [h2]; omega) (by rw [h2]; omega) (by rw [h2]; omega) ?_
  rw [h0] at h1
  rw [h2]
  refine CM.mono h1 fun r2 m2 n2 h3 => ?_
  obtain ⟨rfl, h3⟩ := h3
  exact b0_186 (s0 := x) (s1 := x) hx hx (fun _ => Kk m2 n2 h3) (fun q => absurd rfl q)
theorem law_c1 {Γ : GG} {m : MI} {n : ML} {t : Int} {P : PO} (hS : Sim t m m) (ht : 0 ≤ t ∧ t ≤ 511) (hg : ∀ j, InR (gS Γ 0 j)) (hL : 4 * t + 4 ≤ gS Γ 1 0) (Kk : ∀ m n, Sim (t + 1) m m → AM Γ 10 0 843 [some (vr 0 0), some (vr 1 0), some (vr 25 0), some (vi (4 * t))] [] m n P) : AM Γ 10 0 191 [some (vr 0 0), some (vr 1 0), some (vr 25 0), some (vi (4 * t))] [] m n P :=
  AM.w0 fun h0 _ _ => by
  refine b0_191 (d := 9) (by rw [h0]; omega) (by rw [h0]; omega) (by rw [h0]; omega) (CM.mono (op_addStory (d := 4) hS (wrd_in h0 hg _) (wrd_in h0 hg _) (wrd_in h0 hg _)) fun r1 m1 n1 h1 => ?_)
  obtain ⟨x, hx, rfl, h1⟩ := h1
  refine AM.w0 fun h2 _ _ => b0_210 (d := 9) (s0 := x) (by rw [h2]; omega) (by rw [h2]; omega) (by rw [h2]; omega) ?_
  rw [h0] at h1
  rw [h2]
  refine CM.mono h1 fun r2 m2 n2 h3 => ?_
  obtain ⟨rfl, h3⟩ := h3
  exact b0_229 (s0 := x) (s1 := x) hx hx (fun _ => Kk m2 n2 h3) (fun q => absurd rfl q)
theorem law_c2 {Γ : GG} {m : MI} {n : ML} {t : Int} {P : PO} (hS : Sim t m m) (ht : 0 ≤ t ∧ t ≤ 511) (hg : ∀ j, InR (gS Γ 0 j)) (hL : 4 * t + 4 ≤ gS Γ 1 0) (Kk : ∀ m n, Sim (t + 1) m m → AM Γ 10 0 843 [some (vr 0 0), some (vr 1 0), some (vr 25 0), some (vi (4 * t))] [] m n P) : AM Γ 10 0 234 [some (vr 0 0), some (vr 1 0), some (vr 25 0), some (vi (4 * t))] [] m n P :=
  AM.w0 fun h0 _ _ => by
  refine b0_234 (d := 9) (by rw [h0]; omega) (by rw [h0]; omega) (CM.mono (op_setRank (d := 4) hS (wrd_in h0 hg _) (wrd_in h0 hg _)) fun r1 m1 n1 h1 => ?_)
  obtain ⟨x, hx, rfl, h1⟩ := h1
  refine AM.w0 fun h2 _ _ => b0_248 (d := 9) (s0 := x) (by rw [h2]; omega) (by rw [h2]; omega) ?_
  rw [h0] at h1
  rw [h2]
  refine CM.mono h1 fun r2 m2 n2 h3 => ?_
  obtain ⟨rfl, h3⟩ := h3
  exact b0_262 (s0 := x) (s1 := x) hx hx (fun _ => Kk m2 n2 h3) (fun q => absurd rfl q)
theorem law_c3 {Γ : GG} {m : MI} {n : ML} {t : Int} {P : PO} (hS : Sim t m m) (ht : 0 ≤ t ∧ t ≤ 511) (hg : ∀ j, InR (gS Γ 0 j)) (hL : 4 * t + 4 ≤ gS Γ 1 0) (Kk : ∀ m n, Sim (t + 1) m m → AM Γ 10 0 843 [some (vr 0 0), some (vr 1 0), some (vr 25 0), some (vi (4 * t))] [] m n P) : AM Γ 10 0 267 [some (vr 0 0), some (vr 1 0), some (vr 25 0), some (vi (4 * t))] [] m n P :=
  AM.w0 fun h0 _ _ => by
  refine b0_267 (d := 9) (by rw [h0]; omega) (by rw [h0]; omega) (CM.mono (op_setHome (d := 4) hS (wrd_in h0 hg _) (wrd_in h0 hg _)) fun r1 m1 n1 h1 => ?_)
  obtain ⟨x, hx, rfl, h1⟩ := h1
  refine AM.w0 fun h2 _ _ => b0_281 (d := 9) (s0 := x) (by rw [h2]; omega) (by rw [h2]; omega) ?_
  rw [h0] at h1
  rw [h2]
  refine CM.mono h1 fun r2 m2 n2 h3 => ?_
  obtain ⟨rfl, h3⟩ := h3
  exact b0_295 (s0 := x) (s1 := x) hx hx (fun _ => Kk m2 n2 h3) (fun q => absurd rfl q)
theorem law_c4 {Γ : GG} {m : MI} {n : ML} {t : Int} {P : PO} (hS : Sim t m m) (ht : 0 ≤ t ∧ t ≤ 511) (hg : ∀ j, InR (gS Γ 0 j)) (hL : 4 * t + 4 ≤ gS Γ 1 0) (Kk : ∀ m n, Sim (t + 1) m m → AM Γ 10 0 843 [some (vr 0 0), some (vr 1 0), some (vr 25 0), some (vi (4 * t))] [] m n P) : AM Γ 10 0 300 [some (vr 0 0), some (vr 1 0), some (vr 25 0), some (vi (4 * t))] [] m n P :=
  AM.w0 fun h0 _ _ => by
  refine b0_300 (d := 9) (by rw [h0]; omega) (by rw [h0]; omega) (CM.mono (op_addParagraph (d := 4) hS (wrd_in h0 hg _) (wrd_in h0 hg _)) fun r1 m1 n1 h1 => ?_)
  obtain ⟨x, hx, rfl, h1⟩ := h1
  refine AM.w0 fun h2 _ _ => b0_314 (d := 9) (s0 := x) (by rw [h2]; omega) (by rw [h2]; omega) ?_
  rw [h0] at h1
  rw [h2]
  refine CM.mono h1 fun r2 m2 n2 h3 => ?_
  obtain ⟨rfl, h3⟩ := h3
  exact b0_328 (s0 := x) (s1 := x) hx hx (fun _ => Kk m2 n2 h3) (fun q => absurd rfl q)
theorem law_c5 {Γ : GG} {m : MI} {n : ML} {t : Int} {P : PO} (hS : Sim t m m) (ht : 0 ≤ t ∧ t ≤ 511) (hg : ∀ j, InR (gS Γ 0 j)) (hL : 4 * t + 4 ≤ gS Γ 1 0) (Kk : ∀ m n, Sim (t + 1) m m → AM Γ 10 0 843 [some (vr 0 0), some (vr 1 0), some (vr 25 0), some (vi (4 * t))] [] m n P) : AM Γ 10 0 333 [some (vr 0 0), some (vr 1 0), some (vr 25 0), some (vi (4 * t))] [] m n P :=
  AM.w0 fun h0 _ _ => by
  refine b0_333 (d := 9) (by rw [h0]; omega) (by rw [h0]; omega) (by rw [h0]; omega) (CM.mono (op_setParagraph (d := 4) hS (wrd_in h0 hg _) (wrd_in h0 hg _) (wrd_in h0 hg _)) fun r1 m1 n1 h1 => ?_)
  obtain ⟨x, hx, rfl, h1⟩ := h1
  refine AM.w0 fun h2 _ _ => b0_352 (d := 9) (s0 := x) (by rw [h2]; omega) (by rw [h2]; omega) (by rw [h2]; omega) ?_
  rw [h0] at h1
  rw [h2]
  refine CM.mono h1 fun r2 m2 n2 h3 => ?_
  obtain ⟨rfl, h3⟩ := h3
  exact b0_371 (s0 := x) (s1 := x) hx hx (fun _ => Kk m2 n2 h3) (fun q => absurd rfl q)
theorem law_c6 {Γ : GG} {m : MI} {n : ML} {t : Int} {P : PO} (hS : Sim t m m) (ht : 0 ≤ t ∧ t ≤ 511) (hg : ∀ j, InR (gS Γ 0 j)) (hL : 4 * t + 4 ≤ gS Γ 1 0) (Kk : ∀ m n, Sim (t + 1) m m → AM Γ 10 0 843 [some (vr 0 0), some (vr 1 0), some (vr 25 0), some (vi (4 * t))] [] m n P) : AM Γ 10 0 376 [some (vr 0 0), some (vr 1 0), some (vr 25 0), some (vi (4 * t))] [] m n P :=
  AM.w0 fun h0 _ _ => by
  refine b0_376 (d := 9) (by rw [h0]; omega) (CM.mono (op_kill (d := 4) hS (wrd_in h0 hg _)) fun r1 m1 n1 h1 => ?_)
  obtain ⟨x, hx, rfl, h1⟩ := h1
  refine AM.w0 fun h2 _ _ => b0_385 (d := 9) (s0 := x) (by rw [h2]; omega) ?_
  rw [h0] at h1
  rw [h2]
  refine CM.mono h1 fun r2 m2 n2 h3 => ?_
  obtain ⟨rfl, h3⟩ := h3
  exact b0_394 (s0 := x) (s1 := x) hx hx (fun _ => Kk m2 n2 h3) (fun q => absurd rfl q)
theorem law_c7 {Γ : GG} {m : MI} {n : ML} {t : Int} {P : PO} (hS : Sim t m m) (ht : 0 ≤ t ∧ t ≤ 511) (hg : ∀ j, InR (gS Γ 0 j)) (hL : 4 * t + 4 ≤ gS Γ 1 0) (Kk : ∀ m n, Sim (t + 1) m m → AM Γ 10 0 843 [some (vr 0 0), some (vr 1 0), some (vr 25 0), some (vi (4 * t))] [] m n P) : AM Γ 10 0 399 [some (vr 0 0), some (vr 1 0), some (vr 25 0), some (vi (4 * t))] [] m n P :=
  AM.w0 fun h0 _ _ => by
  refine b0_399 (d := 9) (by rw [h0]; omega) (CM.mono (op_revive (d := 4) hS (wrd_in h0 hg _)) fun r1 m1 n1 h1 => ?_)
  obtain ⟨x, hx, rfl, h1⟩ := h1
  refine AM.w0 fun h2 _ _ => b0_408 (d := 9) (s0 := x) (by rw [h2]; omega) ?_
  rw [h0] at h1
  rw [h2]
  refine CM.mono h1 fun r2 m2 n2 h3 => ?_
  obtain ⟨rfl, h3⟩ := h3
  exact b0_417 (s0 := x) (s1 := x) hx hx (fun _ => Kk m2 n2 h3) (fun q => absurd rfl q)
theorem law_c8 {Γ : GG} {m : MI} {n : ML} {t : Int} {P : PO} (hS : Sim t m m) (ht : 0 ≤ t ∧ t ≤ 511) (hg : ∀ j, InR (gS Γ 0 j)) (hL : 4 * t + 4 ≤ gS Γ 1 0) (Kk : ∀ m n, Sim (t + 1) m m → AM Γ 10 0 843 [some (vr 0 0), some (vr 1 0), some (vr 25 0), some (vi (4 * t))] [] m n P) : AM Γ 10 0 422 [some (vr 0 0), some (vr 1 0), some (vr 25 0), some (vi (4 * t))] [] m n P :=
  AM.w0 fun h0 _ _ => by
  refine b0_422 (d := 9) (by rw [h0]; omega) (by rw [h0]; omega) (CM.mono (op_story (d := 4) hS (wrd_in h0 hg _) (wrd_in h0 hg _)) fun r1 m1 n1 h1 => ?_)
  obtain ⟨x, hx, rfl, h1⟩ := h1
  refine AM.w0 fun h2 _ _ => b0_436 (d := 9) (s0 := x) (by rw [h2]; omega) (by rw [h2]; omega) ?_
  rw [h0] at h1
  rw [h2]
  refine CM.mono h1 fun r2 m2 n2 h3 => ?_
  obtain ⟨rfl, h3⟩ := h3
  exact b0_450 (s0 := x) (s1 := x) hx hx (fun _ => Kk m2 n2 h3) (fun q => absurd rfl q)
theorem law_c9 {Γ : GG} {m : MI} {n : ML} {t : Int} {P : PO} (hS : Sim t m m) (ht : 0 ≤ t ∧ t ≤ 511) (hg : ∀ j, InR (gS Γ 0 j)) (hL : 4 * t + 4 ≤ gS Γ 1 0) (Kk : ∀ m n, Sim (t + 1) m m → AM Γ 10 0 843 [some (vr 0 0), some (vr 1 0), some (vr 25 0), some (vi (4 * t))] [] m n P) : AM Γ 10 0 455 [some (vr 0 0), some (vr 1 0), some (vr 25 0), some (vi (4 * t))] [] m n P :=
  AM.w0 fun h0 _ _ => by
  refine b0_455 (d := 9) (by rw [h0]; omega) (by rw [h0]; omega) (CM.mono (op_paragraph (d := 4) hS (wrd_in h0 hg _) (wrd_in h0 hg _)) fun r1 m1 n1 h1 => ?_)
  obtain ⟨x, hx, rfl, h1⟩ := h1
  refine AM.w0 fun h2 _ _ => b0_469 (d := 9) (s0 := x) (by rw [h2]; omega) (by rw [h2]; omega) ?_
  rw [h0] at h1
  rw [h2]
  refine CM.mono h1 fun r2 m2 n2 h3 => ?_
  obtain ⟨rfl, h3⟩ := h3
  exact b0_483 (s0 := x) (s1 := x) hx hx (fun _ => Kk m2 n2 h3) (fun q => absurd rfl q)
theorem law_c10 {Γ : GG} {m : MI} {n : ML} {t : Int} {P : PO} (hS : Sim t m m) (ht : 0 ≤ t ∧ t ≤ 511) (hg : ∀ j, InR (gS Γ 0 j)) (hL : 4 * t + 4 ≤ gS Γ 1 0) (Kk : ∀ m n, Sim (t + 1) m m → AM Γ 10 0 843 [some (vr 0 0), some (vr 1 0), some (vr 25 0), some (vi (4 * t))] [] m n P) : AM Γ 10 0 488 [some (vr 0 0), some (vr 1 0), some (vr 25 0), some (vi (4 * t))] [] m n P :=
  AM.w0 fun h0 _ _ => by
  refine b0_488 (d := 9) (by rw [h0]; omega) (CM.mono (op_count (d := 4) hS (by omega) (wrd_in h0 hg _)) fun r1 m1 n1 h1 => ?_)
  obtain ⟨x, hx, rfl, h1⟩ := h1
  refine AM.w0 fun h2 _ _ => b0_497 (d := 9) (s0 := x) (by rw [h2]; omega) ?_
  rw [h0] at h1
  rw [h2]
  refine CM.mono h1 fun r2 m2 n2 h3 => ?_
  obtain ⟨rfl, h3⟩ := h3
  exact b0_506 (s0 := x) (s1 := x) hx hx (fun _ => Kk m2 n2 h3) (fun q => absurd rfl q)
theorem law_c11 {Γ : GG} {m : MI} {n : ML} {t : Int} {P : PO} (hS : Sim t m m) (ht : 0 ≤ t ∧ t ≤ 511) (hg : ∀ j, InR (gS Γ 0 j)) (hL : 4 * t + 4 ≤ gS Γ 1 0) (Kk : ∀ m n, Sim (t + 1) m m → AM Γ 10 0 843 [some (vr 0 0), some (vr 1 0), some (vr 25 0), some (vi (4 * t))] [] m n P) : AM Γ 10 0 511 [some (vr 0 0), some (vr 1 0), some (vr 25 0), some (vi (4 * t))] [] m n P :=
  AM.w0 fun h0 _ _ => by
  refine b0_511 (d := 9) (by rw [h0]; omega) (CM.mono (op_appendCharacter (d := 4) hS (wrd_in h0 hg _)) fun r1 m1 n1 h1 => ?_)
  obtain ⟨x, hx, rfl, h1⟩ := h1
  refine AM.w0 fun h2 _ _ => b0_520 (d := 9) (s0 := x) (by rw [h2]; omega) ?_
  rw [h0] at h1
  rw [h2]
  refine CM.mono h1 fun r2 m2 n2 h3 => ?_
  obtain ⟨rfl, h3⟩ := h3
  exact b0_529 (s0 := x) (s1 := x) hx hx (fun _ => Kk m2 n2 h3) (fun q => absurd rfl q)
theorem law_c12 {Γ : GG} {m : MI} {n : ML} {t : Int} {P : PO} (hS : Sim t m m) (ht : 0 ≤ t ∧ t ≤ 511) (Kk : ∀ m n, Sim (t + 1) m m → AM Γ 10 0 843 [some (vr 0 0), some (vr 1 0), some (vr 25 0), some (vi (4 * t))] [] m n P) : AM Γ 10 0 534 [some (vr 0 0), some (vr 1 0), some (vr 25 0), some (vi (4 * t))] [] m n P := by
  refine b0_534 (d := 9) (CM.mono (op_clearText (d := 4) hS ) fun r1 m1 n1 h1 => ?_)
  obtain ⟨x, hx, rfl, h1⟩ := h1
  refine b0_538 (d := 9) (s0 := x) (CM.mono h1 fun r2 m2 n2 h3 => ?_)
  obtain ⟨rfl, h3⟩ := h3
  exact b0_542 (s0 := x) (s1 := x) hx hx (fun _ => Kk m2 n2 h3) (fun q => absurd rfl q)
theorem law_c13 {Γ : GG} {m : MI} {n : ML} {t : Int} {P : PO} (hS : Sim t m m) (ht : 0 ≤ t ∧ t ≤ 511) (Kk : ∀ m n, Sim (t + 1) m m → AM Γ 10 0 843 [some (vr 0 0), some (vr 1 0), some (vr 25 0), some (vi (4 * t))] [] m n P) : AM Γ 10 0 547 [some (vr 0 0), some (vr 1 0), some (vr 25 0), some (vi (4 * t))] [] m n P := by
  refine b0_547 (d := 9) (CM.mono (op_load (d := 2) hS ) fun r1 m1 n1 h1 => ?_)
  obtain ⟨x, hx, rfl, h1⟩ := h1
  refine b0_551 (d := 9) (s0 := x) (CM.mono h1 fun r2 m2 n2 h3 => ?_)
  obtain ⟨rfl, h3⟩ := h3
  exact b0_555 (s0 := x) (s1 := x) hx hx (fun _ => Kk m2 n2 h3) (fun q => absurd rfl q)
theorem law_c14 {Γ : GG} {m : MI} {n : ML} {t : Int} {P : PO} (hS : Sim t m m) (ht : 0 ≤ t ∧ t ≤ 511) (Kk : ∀ m n, Sim (t + 1) m m → AM Γ 10 0 843 [some (vr 0 0), some (vr 1 0), some (vr 25 0), some (vi (4 * t))] [] m n P) : AM Γ 10 0 560 [some (vr 0 0), some (vr 1 0), some (vr 25 0), some (vi (4 * t))] [] m n P := by
  refine b0_560 (d := 9) (CM.mono (op_make (d := 2) hS (by omega) ) fun r1 m1 n1 h1 => ?_)
  obtain ⟨x, hx, rfl, h1⟩ := h1
  refine b0_564 (d := 9) (s0 := x) (CM.mono h1 fun r2 m2 n2 h3 => ?_)
  obtain ⟨rfl, h3⟩ := h3
  exact b0_568 (s0 := x) (s1 := x) hx hx (fun _ => Kk m2 n2 h3) (fun q => absurd rfl q)
theorem law_c15 {Γ : GG} {m : MI} {n : ML} {t : Int} {P : PO} (hS : Sim t m m) (ht : 0 ≤ t ∧ t ≤ 511) (hg : ∀ j, InR (gS Γ 0 j)) (hL : 4 * t + 4 ≤ gS Γ 1 0) (Kk : ∀ m n, Sim (t + 1) m m → AM Γ 10 0 843 [some (vr 0 0), some (vr 1 0), some (vr 25 0), some (vi (4 * t))] [] m n P) : AM Γ 10 0 573 [some (vr 0 0), some (vr 1 0), some (vr 25 0), some (vi (4 * t))] [] m n P :=
  AM.w0 fun h0 _ _ => by
  refine b0_573 (d := 9) (by rw [h0]; omega) (CM.mono (op_edition (d := 4) hS (by omega) (wrd_in h0 hg _)) fun r1 m1 n1 h1 => ?_)
  obtain ⟨x, hx, rfl, h1⟩ := h1
  refine AM.w0 fun h2 _ _ => b0_582 (d := 9) (s0 := x) (by rw [h2]; omega) ?_
  rw [h0] at h1
  rw [h2]
  refine CM.mono h1 fun r2 m2 n2 h3 => ?_
  obtain ⟨rfl, h3⟩ := h3
  exact b0_591 (s0 := x) (s1 := x) hx hx (fun _ => Kk m2 n2 h3) (fun q => absurd rfl q)
theorem law_c16 {Γ : GG} {m : MI} {n : ML} {t : Int} {P : PO} (hS : Sim t m m) (ht : 0 ≤ t ∧ t ≤ 511) (hg : ∀ j, InR (gS Γ 0 j)) (hL : 4 * t + 4 ≤ gS Γ 1 0) (Kk : ∀ m n, Sim (t + 1) m m → AM Γ 10 0 843 [some (vr 0 0), some (vr 1 0), some (vr 25 0), some (vi (4 * t))] [] m n P) : AM Γ 10 0 596 [some (vr 0 0), some (vr 1 0), some (vr 25 0), some (vi (4 * t))] [] m n P :=
  AM.w0 fun h0 _ _ => by
  refine b0_596 (d := 9) (by rw [h0]; omega) (CM.mono (op_pieces (d := 4) hS (by omega) (wrd_in h0 hg _)) fun r1 m1 n1 h1 => ?_)
  obtain ⟨x, hx, rfl, h1⟩ := h1
  refine AM.w0 fun h2 _ _ => b0_605 (d := 9) (s0 := x) (by rw [h2]; omega) ?_
  rw [h0] at h1
  rw [h2]
  refine CM.mono h1 fun r2 m2 n2 h3 => ?_
  obtain ⟨rfl, h3⟩ := h3
  exact b0_614 (s0 := x) (s1 := x) hx hx (fun _ => Kk m2 n2 h3) (fun q => absurd rfl q)
theorem law_c17 {Γ : GG} {m : MI} {n : ML} {t : Int} {P : PO} (hS : Sim t m m) (ht : 0 ≤ t ∧ t ≤ 511) (hg : ∀ j, InR (gS Γ 0 j)) (hL : 4 * t + 4 ≤ gS Γ 1 0) (Kk : ∀ m n, Sim (t + 1) m m → AM Γ 10 0 843 [some (vr 0 0), some (vr 1 0), some (vr 25 0), some (vi (4 * t))] [] m n P) : AM Γ 10 0 619 [some (vr 0 0), some (vr 1 0), some (vr 25 0), some (vi (4 * t))] [] m n P :=
  AM.w0 fun h0 _ _ => by
  refine b0_619 (d := 9) (by rw [h0]; omega) (by rw [h0]; omega) (by rw [h0]; omega) (CM.mono (op_piece (d := 4) hS (by omega) (wrd_in h0 hg _) (wrd_in h0 hg _) (wrd_in h0 hg _)) fun r1 m1 n1 h1 => ?_)
  obtain ⟨x, hx, rfl, h1⟩ := h1
  refine AM.w0 fun h2 _ _ => b0_638 (d := 9) (s0 := x) (by rw [h2]; omega) (by rw [h2]; omega) (by rw [h2]; omega) ?_
  rw [h0] at h1
  rw [h2]
  refine CM.mono h1 fun r2 m2 n2 h3 => ?_
  obtain ⟨rfl, h3⟩ := h3
  exact b0_657 (s0 := x) (s1 := x) hx hx (fun _ => Kk m2 n2 h3) (fun q => absurd rfl q)
theorem law_c18 {Γ : GG} {m : MI} {n : ML} {t : Int} {P : PO} (hS : Sim t m m) (ht : 0 ≤ t ∧ t ≤ 511) (hg : ∀ j, InR (gS Γ 0 j)) (hL : 4 * t + 4 ≤ gS Γ 1 0) (Kk : ∀ m n, Sim (t + 1) m m → AM Γ 10 0 843 [some (vr 0 0), some (vr 1 0), some (vr 25 0), some (vi (4 * t))] [] m n P) : AM Γ 10 0 662 [some (vr 0 0), some (vr 1 0), some (vr 25 0), some (vi (4 * t))] [] m n P :=
  AM.w0 fun h0 _ _ => by
  refine b0_662 (d := 9) (by rw [h0]; omega) (by rw [h0]; omega) (by rw [h0]; omega) (CM.mono (op_at (d := 4) hS (by omega) (wrd_in h0 hg _) (wrd_in h0 hg _) (wrd_in h0 hg _)) fun r1 m1 n1 h1 => ?_)
  obtain ⟨x, hx, rfl, h1⟩ := h1
  refine AM.w0 fun h2 _ _ => b0_681 (d := 9) (s0 := x) (by rw [h2]; omega) (by rw [h2]; omega) (by rw [h2]; omega) ?_
  rw [h0] at h1
  rw [h2]
  refine CM.mono h1 fun r2 m2 n2 h3 => ?_
  obtain ⟨rfl, h3⟩ := h3
  exact b0_700 (s0 := x) (s1 := x) hx hx (fun _ => Kk m2 n2 h3) (fun q => absurd rfl q)
theorem law_c19 {Γ : GG} {m : MI} {n : ML} {t : Int} {P : PO} (hS : Sim t m m) (ht : 0 ≤ t ∧ t ≤ 511) (hg : ∀ j, InR (gS Γ 0 j)) (hL : 4 * t + 4 ≤ gS Γ 1 0) (Kk : ∀ m n, Sim (t + 1) m m → AM Γ 10 0 843 [some (vr 0 0), some (vr 1 0), some (vr 25 0), some (vi (4 * t))] [] m n P) : AM Γ 10 0 705 [some (vr 0 0), some (vr 1 0), some (vr 25 0), some (vi (4 * t))] [] m n P :=
  AM.w0 fun h0 _ _ => by
  refine b0_705 (d := 9) (by rw [h0]; omega) (CM.mono (op_longestGap (d := 4) hS (by omega) (wrd_in h0 hg _)) fun r1 m1 n1 h1 => ?_)
  obtain ⟨x, hx, rfl, h1⟩ := h1
  refine AM.w0 fun h2 _ _ => b0_714 (d := 9) (s0 := x) (by rw [h2]; omega) ?_
  rw [h0] at h1
  rw [h2]
  refine CM.mono h1 fun r2 m2 n2 h3 => ?_
  obtain ⟨rfl, h3⟩ := h3
  exact b0_723 (s0 := x) (s1 := x) hx hx (fun _ => Kk m2 n2 h3) (fun q => absurd rfl q)
theorem law_c20 {Γ : GG} {m : MI} {n : ML} {t : Int} {P : PO} (hS : Sim t m m) (ht : 0 ≤ t ∧ t ≤ 511) (hg : ∀ j, InR (gS Γ 0 j)) (hL : 4 * t + 4 ≤ gS Γ 1 0) (Kk : ∀ m n, Sim (t + 1) m m → AM Γ 10 0 843 [some (vr 0 0), some (vr 1 0), some (vr 25 0), some (vi (4 * t))] [] m n P) : AM Γ 10 0 728 [some (vr 0 0), some (vr 1 0), some (vr 25 0), some (vi (4 * t))] [] m n P :=
  AM.w0 fun h0 _ _ => by
  refine b0_728 (d := 9) (by rw [h0]; omega) (CM.mono (op_wasMoved (d := 4) hS (by omega) (wrd_in h0 hg _)) fun r1 m1 n1 h1 => ?_)
  obtain ⟨x, hx, rfl, h1⟩ := h1
  refine AM.w0 fun h2 _ _ => b0_737 (d := 9) (s0 := x) (by rw [h2]; omega) ?_
  rw [h0] at h1
  rw [h2]
  refine CM.mono h1 fun r2 m2 n2 h3 => ?_
  obtain ⟨rfl, h3⟩ := h3
  exact b0_746 (s0 := x) (s1 := x) hx hx (fun _ => Kk m2 n2 h3) (fun q => absurd rfl q)
theorem law_c21 {Γ : GG} {m : MI} {n : ML} {t : Int} {P : PO} (hS : Sim t m m) (ht : 0 ≤ t ∧ t ≤ 511) (hg : ∀ j, InR (gS Γ 0 j)) (hL : 4 * t + 4 ≤ gS Γ 1 0) (Kk : ∀ m n, Sim (t + 1) m m → AM Γ 10 0 843 [some (vr 0 0), some (vr 1 0), some (vr 25 0), some (vi (4 * t))] [] m n P) : AM Γ 10 0 751 [some (vr 0 0), some (vr 1 0), some (vr 25 0), some (vi (4 * t))] [] m n P :=
  AM.w0 fun h0 _ _ => by
  refine b0_751 (d := 9) (by rw [h0]; omega) (CM.mono (op_next (d := 2) hS (by omega) (wrd_in h0 hg _)) fun r1 m1 n1 h1 => ?_)
  obtain ⟨x, hx, rfl, h1⟩ := h1
  refine AM.w0 fun h2 _ _ => b0_760 (d := 9) (s0 := x) (by rw [h2]; omega) ?_
  rw [h0] at h1
  rw [h2]
  refine CM.mono h1 fun r2 m2 n2 h3 => ?_
  obtain ⟨rfl, h3⟩ := h3
  exact b0_769 (s0 := x) (s1 := x) hx hx (fun _ => Kk m2 n2 h3) (fun q => absurd rfl q)
theorem law_c22 {Γ : GG} {m : MI} {n : ML} {t : Int} {P : PO} (hS : Sim t m m) (ht : 0 ≤ t ∧ t ≤ 511) (hg : ∀ j, InR (gS Γ 0 j)) (hL : 4 * t + 4 ≤ gS Γ 1 0) (Kk : ∀ m n, Sim (t + 1) m m → AM Γ 10 0 843 [some (vr 0 0), some (vr 1 0), some (vr 25 0), some (vi (4 * t))] [] m n P) : AM Γ 10 0 774 [some (vr 0 0), some (vr 1 0), some (vr 25 0), some (vi (4 * t))] [] m n P :=
  AM.w0 fun h0 _ _ => by
  refine b0_774 (d := 9) (by rw [h0]; omega) (by rw [h0]; omega) (CM.mono (op_piecesWith (d := 2) hS (by omega) (wrd_in h0 hg _) (wrd_in h0 hg _)) fun r1 m1 n1 h1 => ?_)
  obtain ⟨x, hx, rfl, h1⟩ := h1
  refine AM.w0 fun h2 _ _ => b0_788 (d := 9) (s0 := x) (by rw [h2]; omega) (by rw [h2]; omega) ?_
  rw [h0] at h1
  rw [h2]
  refine CM.mono h1 fun r2 m2 n2 h3 => ?_
  obtain ⟨rfl, h3⟩ := h3
  exact b0_802 (s0 := x) (s1 := x) hx hx (fun _ => Kk m2 n2 h3) (fun q => absurd rfl q)
theorem law_c23 {Γ : GG} {m : MI} {n : ML} {t : Int} {P : PO} (hS : Sim t m m) (ht : 0 ≤ t ∧ t ≤ 511) (hg : ∀ j, InR (gS Γ 0 j)) (hL : 4 * t + 4 ≤ gS Γ 1 0) (Kk : ∀ m n, Sim (t + 1) m m → AM Γ 10 0 843 [some (vr 0 0), some (vr 1 0), some (vr 25 0), some (vi (4 * t))] [] m n P) : AM Γ 10 0 807 [some (vr 0 0), some (vr 1 0), some (vr 25 0), some (vi (4 * t))] [] m n P :=
  AM.w0 fun h0 _ _ => by
  refine b0_807 (d := 9) (by rw [h0]; omega) (CM.mono (op_roomFor (d := 2) hS (by omega) (wrd_in h0 hg _)) fun r1 m1 n1 h1 => ?_)
  obtain ⟨x, hx, rfl, h1⟩ := h1
  refine AM.w0 fun h2 _ _ => b0_816 (d := 9) (s0 := x) (by rw [h2]; omega) ?_
  rw [h0] at h1
  rw [h2]
  refine CM.mono h1 fun r2 m2 n2 h3 => ?_
  obtain ⟨rfl, h3⟩ := h3
  exact b0_825 (s0 := x) (s1 := x) hx hx (fun _ => Kk m2 n2 h3) (fun q => absurd rfl q)
theorem law_c24 {Γ : GG} {m : MI} {n : ML} {t : Int} {P : PO} (hS : Sim t m m) (ht : 0 ≤ t ∧ t ≤ 511) (Kk : ∀ m n, Sim (t + 1) m m → AM Γ 10 0 843 [some (vr 0 0), some (vr 1 0), some (vr 25 0), some (vi (4 * t))] [] m n P) : AM Γ 10 0 830 [some (vr 0 0), some (vr 1 0), some (vr 25 0), some (vi (4 * t))] [] m n P := by
  refine b0_830 (d := 9) (CM.mono (op_undo (d := 4) hS ) fun r1 m1 n1 h1 => ?_)
  obtain ⟨x, hx, rfl, h1⟩ := h1
  refine b0_834 (d := 9) (s0 := x) (CM.mono h1 fun r2 m2 n2 h3 => ?_)
  obtain ⟨rfl, h3⟩ := h3
  exact b0_838 (s0 := x) (s1 := x) hx hx (fun _ => Kk m2 n2 h3) (fun q => absurd rfl q)
theorem law_loop {Γ : GG} (hg : ∀ j, InR (gS Γ 0 j)) (hl : 0 ≤ gS Γ 1 0 ∧ gS Γ 1 0 ≤ 2048) {P : PO} (K : ∀ m n, P (some (vi 1)) m n) : ∀ (f : Nat) (t : Int) (m : MI) (n : ML), Sim t m m → 0 ≤ t → 512 ≤ t + f → t ≤ 512 → AM Γ 10 0 18 [some (vr 0 0), some (vr 1 0), some (vr 25 0), some (vi (4 * t))] [] m n P
  | 0, t, m, n, hS, h0, hf, h5 => AM.w0 fun hm _ _ => b0_18 (x3 := 4 * t) (by omega) (by rw [hm]; omega) (fun _ => b0_849 (K m n)) (fun q => absurd q (by rw [hm]; omega))
  | f + 1, t, m, n, hS, h0, hf, h5 => AM.w0 fun hm _ _ => by
    refine b0_18 (x3 := 4 * t) (by omega) (by rw [hm]; omega) (fun _ => b0_849 (K m n)) (fun q => ?_)
    rw [hm] at q
    have Kk : ∀ m n, Sim (t + 1) m m → AM Γ 10 0 843 [some (vr 0 0), some (vr 1 0), some (vr 25 0), some (vi (4 * t))] [] m n P := fun m n h => b0_843 (x3 := 4 * t) (by
      have e : 4 * t + 4 = 4 * (t + 1) := by omega
      rw [e]
      exact law_loop hg hl K f (t + 1) m n h (by omega) (by omega) (by omega))
    refine b0_26 (x3 := 4 * t) (by rw [hm]; omega) (iop_bd _ _ _) (fun _ => Kk m n hS.next) (fun _ => ?_) (fun _ => ?_) (fun _ => ?_) (fun _ => ?_) (fun _ => ?_) (fun _ => ?_) (fun _ => ?_) (fun _ => ?_) (fun _ => ?_) (fun _ => ?_) (fun _ => ?_) (fun _ => ?_) (fun _ => ?_) (fun _ => ?_) (fun _ => ?_) (fun _ => ?_) (fun _ => ?_) (fun _ => ?_) (fun _ => ?_) (fun _ => ?_) (fun _ => ?_) (fun _ => ?_) (fun _ => ?_) (fun _ => ?_) (fun _ => ?_)
    · exact law_c0 hS ⟨h0, by omega⟩ hg (by omega) Kk
    · exact law_c1 hS ⟨h0, by omega⟩ hg (by omega) Kk
    · exact law_c2 hS ⟨h0, by omega⟩ hg (by omega) Kk
    · exact law_c3 hS ⟨h0, by omega⟩ hg (by omega) Kk
    · exact law_c4 hS ⟨h0, by omega⟩ hg (by omega) Kk
    · exact law_c5 hS ⟨h0, by omega⟩ hg (by omega) Kk
    · exact law_c6 hS ⟨h0, by omega⟩ hg (by omega) Kk
    · exact law_c7 hS ⟨h0, by omega⟩ hg (by omega) Kk
    · exact law_c8 hS ⟨h0, by omega⟩ hg (by omega) Kk
    · exact law_c9 hS ⟨h0, by omega⟩ hg (by omega) Kk
    · exact law_c10 hS ⟨h0, by omega⟩ hg (by omega) Kk
    · exact law_c11 hS ⟨h0, by omega⟩ hg (by omega) Kk
    · exact law_c12 hS ⟨h0, by omega⟩ Kk
    · exact law_c13 hS ⟨h0, by omega⟩ Kk
    · exact law_c14 hS ⟨h0, by omega⟩ Kk
    · exact law_c15 hS ⟨h0, by omega⟩ hg (by omega) Kk
    · exact law_c16 hS ⟨h0, by omega⟩ hg (by omega) Kk
    · exact law_c17 hS ⟨h0, by omega⟩ hg (by omega) Kk
    · exact law_c18 hS ⟨h0, by omega⟩ hg (by omega) Kk
    · exact law_c19 hS ⟨h0, by omega⟩ hg (by omega) Kk
    · exact law_c20 hS ⟨h0, by omega⟩ hg (by omega) Kk
    · exact law_c21 hS ⟨h0, by omega⟩ hg (by omega) Kk
    · exact law_c22 hS ⟨h0, by omega⟩ hg (by omega) Kk
    · exact law_c23 hS ⟨h0, by omega⟩ hg (by omega) Kk
    · exact law_c24 hS ⟨h0, by omega⟩ Kk
