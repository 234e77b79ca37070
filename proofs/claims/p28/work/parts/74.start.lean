-- THE LAW'S START
theorem k_ast {p : Program} {l : Launch} {e : Env} {R : Jvm.Room} {s : State} {m : MethodId} {args : Array Value} {below : List Frame} {meth : Method} {c : Code} {cells slots : Nat} {Q : State → Prop} {D : va_G} {C : Nat → ClassId} {A : Nat → Prop} {cc : ByteArray} {nL o pc : Nat} {ls : Array Slot} {rest : List Value} {ws : va_W} {k : Fin 4} {i x : Nat} {lv lv' : List (Nat × Value)} (F : Fq D C p s m args c cc nL o A) (h : lv_has ls nL lv) (hi : (k : Nat) = i) (hn : i < nL) (hl : (i, Value.ref x) :: lv.filter (fun q => !(q.1 == i) && !(q.1 + 1 == i && q.2.category == 2)) = lv') (hd : decode cc pc = .ok (.astore_n k, 1)) (kk : ∀ ls' : Array Slot, lv_has ls' nL lv' → Wc p l e R s m args below meth c Q D A cells slots (pc + 1) ls' rest ws) : Wc p l e R s m args below meth c Q D A cells slots pc ls (.ref x :: rest) ws :=
  fun H locs hw => lv_astore_n F.1.1 F.1.2.1 hd hi h hn hl (fun ls' h' => kk ls' h' H locs hw)
theorem arr_p {s : State} {args : Array Value} {ty : FieldType} (h : (Cond.arrayClass ty).before args s = true) (hr : ∀ c, s.vm.findClass ("[" ++ ty.toString) = some c → va_RA s c ty) : ∃ cA : ClassId, ArrOfT s cA ty ∧ va_RA s cA ty := by
  obtain ⟨c, k, comp, h1, h2, h3⟩ := Cond.arrayClass_spec h
  exact ⟨c, fun n z => ⟨(fun k h => by cases h), k, h2, comp, h3⟩, hr c h1⟩
theorem arr_o {s : State} (h : va_AO RX2 s) : ∃ cA : ClassId, ArrOfT s cA (.object RX2) ∧ va_RA s cA (.object RX2) := by
  obtain ⟨comp, c, k, h1, h2, h3, h4, h5⟩ := Cond.arrayOver_spec (va_AO.use (A := #[]) h)
  exact ⟨c, fun n z => ⟨(fun k h => by cases h), k, h3, comp, h4⟩, k, comp, h3, h4, h1, h5⟩
/-- what the tables give at the law's entry -/
theorem known_0 {s : State} {args : Array Value} (hts : ∀ w ∈ WS, w.before args s = true) (hN : NwC s) : ∃ (D : va_G) (C : Nat → ClassId), va_K D vwCl (tysC C) s := by
  obtain ⟨c0, j0, k0⟩ := u_known (C := RX0) (T := TX0) (N := 12) (n := 12) hts wl_X0 (hts _ (mt1 (i := 28) (by decide +kernel) rfl))
  obtain ⟨c1, j1, k1⟩ := u_known (C := RX1) (T := TX1) (N := 2) (n := 2) hts wl_X1 (hts _ (mt1 (i := 167) (by decide +kernel) rfl))
  obtain ⟨c2, i2, k2⟩ := u_known (C := RX2) (T := TX2) (N := 11) (n := 11) hts wl_X2 (hts _ (mt1 (i := 22) (by decide +kernel) rfl))
  obtain ⟨c3, i3, k3⟩ := u_known (C := RX3) (T := TX3) (N := 4) (n := 4) hts wl_X3 (hts _ (mt1 (i := 173) (by decide +kernel) rfl))
  obtain ⟨c4, i4, k4⟩ := u_known (C := RX4) (T := TX4) (N := 4) (n := 4) hts wl_X4 (hts _ (mt1 (i := 147) (by decide +kernel) rfl))
  obtain ⟨c5, i5, k5⟩ := u_known (C := RX5) (T := TX5) (N := 7) (n := 7) hts wl_X5 (hts _ (mt1 (i := 14) (by decide +kernel) rfl))
  obtain ⟨a1, g1⟩ := arr_p (ty := .int) (hts _ (mt1 (i := 86) (by decide +kernel) rfl)) (fun _ h => h)
  obtain ⟨a2, g2⟩ := arr_p (ty := .boolean) (hts _ (mt1 (i := 87) (by decide +kernel) rfl)) (fun _ h => h)
  obtain ⟨a4, g4⟩ := arr_p (ty := .long) (hts _ (mt1 (i := 191) (by decide +kernel) rfl)) (fun _ h => h)
  obtain ⟨a5, g5⟩ := arr_o hN.2.2
  refine ⟨(fun k => [c0, c1, c2, c3, c4, c5].getD k c0, fun k => [j0, j1, i2, i3, i4, i5].getD k j0), fun k => [a1, a1, a2, a1, a4, a5].getD k a1, fun k q hq => ?_, fun k q hq => ?_⟩
  · match k, hq with
    | 0, hq => cases hq; exact k0
    | 1, hq => cases hq; exact k1
    | 2, hq => cases hq; exact k2
    | 3, hq => cases hq; exact k3
    | 4, hq => cases hq; exact k4
    | 5, hq => cases hq; exact k5
    | k + 6, hq => simp [vwCl] at hq
  · match k, hq with
    | 0, hq => cases hq; exact g1
    | 1, hq => cases hq; exact g2
    | 2, hq => cases hq; exact g1
    | 3, hq => cases hq; exact g4
    | 4, hq => cases hq; exact g5
    | k + 5, hq => simp [tysC] at hq
theorem gok_0 {Γ : GG} {m : MI} {n : ML} {A : Nat → Prop} (h : va_D A (wls Γ m n)) : GOK Γ ∧ ∀ kk pp, vd kk pp → A (gA Γ kk pp) := by
  refine ⟨fun k p k' p' h1 h2 he => ?_, fun kk pp h1 => ?_⟩
  · obtain ⟨i, hi⟩ := wl_at h1
    obtain ⟨j, hj⟩ := wl_at h2
    have e := h.1 i j _ _ (wls_get hi) (wls_get hj) he
    subst e
    have e2 : (k, p) = (k', p') := Option.some.inj (hi.symm.trans hj)
    exact ⟨congrArg Prod.fst e2, congrArg Prod.snd e2⟩
  · obtain ⟨i, hi⟩ := wl_at h1
    exact h.2 i _ (wls_get hi)
