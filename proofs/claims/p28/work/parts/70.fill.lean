-- THE CONSTRUCTORS: more rules, Arrays.fill of one row
theorem k_il {p : Program} {l : Launch} {e : Env} {R : Jvm.Room} {s : State} {m : MethodId} {args : Array Value} {below : List Frame} {meth : Method} {c : Code} {cells slots : Nat} {Q : State → Prop} {D : va_G} {C : Nat → ClassId} {A : Nat → Prop} {cc : ByteArray} {nL o pc : Nat} {ls : Array Slot} {rest : List Value} {ws : va_W} {k : Fin 4} {i : Nat} {x : Int32} (F : Fq D C p s m args c cc nL o A) (hl : ls[i]? = some (.val (.int x))) (hi : (k : Nat) = i) (hd : decode cc pc = .ok (.iload_n k, 1)) (kk : Wc p l e R s m args below meth c Q D A cells slots (pc + 1) ls (.int x :: rest) ws) : Wc p l e R s m args below meth c Q D A cells slots pc ls rest ws :=
  fun H locs hw => lv_iload_n F.1.1 F.1.2.1 hd hi hl (kk H locs hw)
theorem k_ist {p : Program} {l : Launch} {e : Env} {R : Jvm.Room} {s : State} {m : MethodId} {args : Array Value} {below : List Frame} {meth : Method} {c : Code} {cells slots : Nat} {Q : State → Prop} {D : va_G} {C : Nat → ClassId} {A : Nat → Prop} {cc : ByteArray} {nL o pc : Nat} {ls : Array Slot} {rest : List Value} {ws : va_W} {k : Fin 4} {i : Nat} {x : Int32} {lv lv' : List (Nat × Value)} (F : Fq D C p s m args c cc nL o A) (h : lv_has ls nL lv) (hi : (k : Nat) = i) (hn : i < nL) (hl : (i, Value.int x) :: lv.filter (fun q => !(q.1 == i) && !(q.1 + 1 == i && q.2.category == 2)) = lv') (hd : decode cc pc = .ok (.istore_n k, 1)) (kk : ∀ ls' : Array Slot, lv_has ls' nL lv' → Wc p l e R s m args below meth c Q D A cells slots (pc + 1) ls' rest ws) : Wc p l e R s m args below meth c Q D A cells slots pc ls (.int x :: rest) ws :=
  fun H locs hw => lv_istore_n F.1.1 F.1.2.1 hd hi h hn hl (fun ls' h' => kk ls' h' H locs hw)
theorem k_iinc {p : Program} {l : Launch} {e : Env} {R : Jvm.Room} {s : State} {m : MethodId} {args : Array Value} {below : List Frame} {meth : Method} {c : Code} {cells slots : Nat} {Q : State → Prop} {D : va_G} {C : Nat → ClassId} {A : Nat → Prop} {cc : ByteArray} {nL o pc : Nat} {ls : Array Slot} {rest : List Value} {ws : va_W} {i k : Nat} {z : Int} {x v : Int32} {lv lv' : List (Nat × Value)} (F : Fq D C p s m args c cc nL o A) (h : lv_has ls nL lv) (hk : lv[k]? = some (i, .int x)) (hv : x + Int32.ofInt z = v) (hn : i < nL) (hl : (i, Value.int v) :: lv.filter (fun q => !(q.1 == i) && !(q.1 + 1 == i && q.2.category == 2)) = lv') (hd : decode cc pc = .ok (.iinc i z, 3)) (kk : ∀ ls' : Array Slot, lv_has ls' nL lv' → Wc p l e R s m args below meth c Q D A cells slots (pc + 3) ls' rest ws) : Wc p l e R s m args below meth c Q D A cells slots pc ls rest ws :=
  fun H locs hw => lv_iinc F.1.1 F.1.2.1 hd h hk hv hn hl (fun ls' h' => kk ls' h' H locs hw)
theorem k_goto {p : Program} {l : Launch} {e : Env} {R : Jvm.Room} {s : State} {m : MethodId} {args : Array Value} {below : List Frame} {meth : Method} {c : Code} {cells slots : Nat} {Q : State → Prop} {D : va_G} {C : Nat → ClassId} {A : Nat → Prop} {cc : ByteArray} {nL o pc : Nat} {ls : Array Slot} {rest : List Value} {ws : va_W} {off : Int} {tgt : Nat} (F : Fq D C p s m args c cc nL o A) (ht : (pc : Int) + off = (tgt : Int)) (hd : decode cc pc = .ok (.goto off, 3)) (kk : Wc p l e R s m args below meth c Q D A cells slots tgt ls rest ws) : Wc p l e R s m args below meth c Q D A cells slots pc ls rest ws :=
  fun H locs hw => lv_goto F.1.1 F.1.2.1 hd ht (kk H locs hw)
theorem k_get_t {p : Program} {l : Launch} {e : Env} {R : Jvm.Room} {s : State} {m : MethodId} {args : Array Value} {below : List Frame} {meth : Method} {c : Code} {cells slots : Nat} {Q : State → Prop} {D : va_G} {C : Nat → ClassId} {A : Nat → Prop} {cc : ByteArray} {nL o pc : Nat} {ls : Array Slot} {rest : List Value} {ws : va_W} {x y : Int32} {off : Int} {tgt : Nat} (F : Fq D C p s m args c cc nL o A) (ht : (pc : Int) + off = (tgt : Int)) (hc : y ≤ x) (hd : decode cc pc = .ok (.if_icmp .ge off, 3)) (kk : Wc p l e R s m args below meth c Q D A cells slots tgt ls rest ws) : Wc p l e R s m args below meth c Q D A cells slots pc ls (.int y :: .int x :: rest) ws :=
  fun H locs hw => lv_icmp_ge F.1.1 F.1.2.1 hd ht (fun _ => kk H locs hw) (fun h => absurd hc h)
theorem k_get_f {p : Program} {l : Launch} {e : Env} {R : Jvm.Room} {s : State} {m : MethodId} {args : Array Value} {below : List Frame} {meth : Method} {c : Code} {cells slots : Nat} {Q : State → Prop} {D : va_G} {C : Nat → ClassId} {A : Nat → Prop} {cc : ByteArray} {nL o pc : Nat} {ls : Array Slot} {rest : List Value} {ws : va_W} {x y : Int32} {off : Int} {tgt : Nat} (F : Fq D C p s m args c cc nL o A) (ht : (pc : Int) + off = (tgt : Int)) (hc : ¬ y ≤ x) (hd : decode cc pc = .ok (.if_icmp .ge off, 3)) (kk : Wc p l e R s m args below meth c Q D A cells slots (pc + 3) ls rest ws) : Wc p l e R s m args below meth c Q D A cells slots pc ls (.int y :: .int x :: rest) ws :=
  fun H locs hw => lv_icmp_ge F.1.1 F.1.2.1 hd ht (fun h => absurd h hc) (fun _ => kk H locs hw)
theorem k_ias {p : Program} {l : Launch} {e : Env} {R : Jvm.Room} {s : State} {m : MethodId} {args : Array Value} {below : List Frame} {meth : Method} {c : Code} {cells slots : Nat} {Q : State → Prop} {D : va_G} {C : Nat → ClassId} {A : Nat → Prop} {cc : ByteArray} {nL o pc : Nat} {ls : Array Slot} {rest : List Value} {ws : va_W} {ws' : va_W} {q0 a n k : Nat} {f : Nat → Int32} {i x : Int32} (F : Fq D C p s m args c cc nL o A) (ha : ws[q0]? = some (a, .inl (C 1, n, .inl f))) (hi : i.toNatClampNeg = k) (hin : vp_in i n) (hset : ws.set q0 (a, .inl (C 1, n, .inl (upd f k x))) = ws') (hd : decode cc pc = .ok (.iastore, 1)) (kk : Wc p l e R s m args below meth c Q D A cells slots (pc + 1) ls rest ws') : Wc p l e R s m args below meth c Q D A cells slots pc ls (.int x :: .int i :: .ref a :: rest) ws := by
  intro H locs hw
  subst hi
  subst hset
  exact va_iast F.1.1 F.1.2.1 F.2.2.1 hw.1 hw.2.1 hw.2.2 q0 0 ha rfl hin hd (fun H1 locs1 h1 h2 h3 => kk H1 locs1 ⟨h1, h2, h3⟩)
theorem k_asq {p : Program} {l : Launch} {e : Env} {R : Jvm.Room} {s : State} {m : MethodId} {args : Array Value} {below : List Frame} {meth : Method} {c : Code} {cells slots : Nat} {Q : State → Prop} {D : va_G} {C : Nat → ClassId} {A : Nat → Prop} {cc : ByteArray} {nL o pc : Nat} {ls : Array Slot} {rest : List Value} {ws : va_W} {x : Nat × va_E} {a n k v : Nat} {vs : List Value} {f : Nat → Option Nat} {i : Int32} (F : Fq D C p s m args c cc nL o A) (hv : ws[0]? = some (v, .inr (2, vs))) (hi : i.toNatClampNeg = k) (hin : vp_in i n) (hd : decode cc pc = .ok (.aastore, 1)) (kk : Wc p l e R s m args below meth c Q D A cells slots (pc + 1) ls rest (x :: (a, .inl (C 5, n, .inr (.inr (.inr (.inr (va_up f k (some v))))))) :: ws)) : Wc p l e R s m args below meth c Q D A cells slots pc ls (.ref v :: .int i :: .ref a :: rest) (x :: (a, .inl (C 5, n, .inr (.inr (.inr (.inr f))))) :: ws) := by
  intro H locs hw
  subst hi
  exact va_astq F.1.1 F.1.2.1 F.2.2.1 hw.1 hw.2.1 hw.2.2 1 4 2 2 rfl rfl hv rfl hin hd (fun H1 locs1 h1 h2 h3 => kk H1 locs1 ⟨h1, h2, h3⟩)
theorem k_len {p : Program} {l : Launch} {e : Env} {R : Jvm.Room} {s : State} {m : MethodId} {args : Array Value} {below : List Frame} {meth : Method} {c : Code} {cells slots : Nat} {Q : State → Prop} {D : va_G} {C : Nat → ClassId} {A : Nat → Prop} {cc : ByteArray} {nL o pc : Nat} {ls : Array Slot} {rest : List Value} {ws : va_W} {a : Nat} {f : Nat → Int32} (F : Fq D C p s m args c cc nL o A) (hd : decode cc pc = .ok (.arraylength, 1)) (kk : Wc p l e R s m args below meth c Q D A cells slots (pc + 1) ls (.int 12 :: rest) ((a, .inl (C 1, 12, .inl f)) :: ws)) : Wc p l e R s m args below meth c Q D A cells slots pc ls (.ref a :: rest) ((a, .inl (C 1, 12, .inl f)) :: ws) :=
  fun H locs hw => va_alen F.1.1 F.1.2.1 F.2.2.1 hw.1 0 0 rfl rfl (by show Int32.ofNat 12 = 12; decide) hd (kk H locs hw)
/-- the row's numbers below k are -1 -/
def fl (k : Nat) : Nat → Int32 := fun j => if j < k then -1 else 0
theorem fl_S (k : Nat) : upd (fl k) k (-1) = fl (k + 1) := by
  funext j
  unfold upd fl
  by_cases h : j = k
  · rw [if_pos h, if_pos (by omega)]
  · rw [if_neg h]
    by_cases h2 : j < k
    · rw [if_pos h2, if_pos (by omega)]
    · rw [if_neg h2, if_neg (by omega)]
theorem fl_n : ∀ k, k < 12 → (Int32.ofNat k).toNatClampNeg = k ∧ vp_in (Int32.ofNat k) 12 ∧ ¬ (12 : Int32) ≤ Int32.ofNat k ∧ Int32.ofNat k + Int32.ofInt 1 = Int32.ofNat (k + 1) := by
  unfold vp_in
  decide +kernel
theorem arr_cgr {cA : ClassId} {N : Nat} {f g : Nat → Value} (h : ∀ j, j < N → f j = g j) : arrV cA N f = arrV cA N g := by
  unfold arrV
  congr 1
  exact congrArg Array.ofFn (funext fun j => h j.val j.isLt)
theorem fill_loop {p : Program} {l : Launch} {e : Env} {R : Jvm.Room} {s : State} {m : MethodId} {args : Array Value} {below : List Frame} {meth : Method} {c : Code} {Q : State → Prop} {D : va_G} {C : Nat → ClassId} {A : Nat → Prop} {o q : Nat} (F : Fq D C p s m args c (cN 74) 4 o A) (K : ∀ ls, Wc p l e R s m args below meth c Q D A 0 0 20 ls [] [(q, .inl (C 1, 12, .inl (fl 12)))]) : ∀ (f k : Nat) (ls : Array Slot), k + f = 12 → lv_has ls 4 [(2, .int (Int32.ofNat k)), (0, .ref q), (1, .int (-1)), (3, .int 12)] → Wc p l e R s m args below meth c Q D A 0 0 5 ls [] [(q, .inl (C 1, 12, .inl (fl k)))]
  | 0, k, ls, hk, hl => by
    have hk : k = 12 := by omega
    subst hk
    refine k_il (pc := 5) (k := 2) F (lv_at hl 0 rfl) rfl (by decide +kernel) ?_
    refine k_il (pc := 6) (k := 3) F (lv_at hl 3 rfl) rfl (by decide +kernel) ?_
    exact k_get_t (pc := 7) (off := 13) (tgt := 20) F (by decide) (by decide) (by decide +kernel) (K ls)
  | f + 1, k, ls, hk, hl => by
    obtain ⟨g1, g2, g3, g4⟩ := fl_n k (by omega)
    refine k_il (pc := 5) (k := 2) F (lv_at hl 0 rfl) rfl (by decide +kernel) ?_
    refine k_il (pc := 6) (k := 3) F (lv_at hl 3 rfl) rfl (by decide +kernel) ?_
    refine k_get_f (pc := 7) (off := 13) (tgt := 20) F (by decide) g3 (by decide +kernel) ?_
    refine k_a0 (pc := 10) F (lv_at hl 1 rfl) (by decide +kernel) ?_
    refine k_il (pc := 11) (k := 2) F (lv_at hl 0 rfl) rfl (by decide +kernel) ?_
    refine k_il (pc := 12) (k := 1) F (lv_at hl 2 rfl) rfl (by decide +kernel) ?_
    refine k_ias (pc := 13) (q0 := 0) (ws' := [(q, .inl (C 1, 12, .inl (fl (k + 1))))]) F rfl g1 g2 (by rw [fl_S]; rfl) (by decide +kernel) ?_
    refine k_iinc (pc := 14) (k := 0) (v := Int32.ofNat (k + 1)) (lv' := [(2, .int (Int32.ofNat (k + 1))), (0, .ref q), (1, .int (-1)), (3, .int 12)]) F hl rfl g4 (by decide) rfl (by decide +kernel) (fun ls' hl' => ?_)
    exact k_goto (pc := 17) (off := -12) (tgt := 5) F (by decide) (by decide +kernel) (fill_loop F K f (k + 1) ls' (by omega) hl')
theorem d74_20 : decode (cN 74) 20 = .ok (.return_, 1) := by decide +kernel
theorem vp_cgr {cA : ClassId} {N : Nat} {f g : Nat → Int32} (h : ∀ j, j < N → f j = g j) : vp_cell cA (N, .inl f) = vp_cell cA (N, .inl g) := by
  rw [vp_cell_i, vp_cell_i]
  exact arr_cgr (fun j hj => by rw [h j hj])
theorem fill_end {D : va_G} {C : Nat → ClassId} {q : Nat} {H : Heap} (h : va_P D vwCl [(q, .inl (C 1, 12, .inl (fl 12)))] H) : va_P D vwCl [(q, .inl (C 1, 12, .inl (fun _ => -1)))] H := by
  have h1 : H[q]? = some (vp_cell (C 1) (12, .inl (fl 12))) := h 0 (q, .inl (C 1, 12, .inl (fl 12))) rfl
  intro k z hz
  have hk : k < 1 := (List.getElem?_eq_some_iff.mp hz).1
  have hz0 : z = (q, .inl (C 1, 12, .inl (fun _ => -1))) := by
    rw [show k = 0 by omega] at hz
    exact (Option.some.inj hz).symm
  subst hz0
  show H[q]? = some (vp_cell (C 1) (12, .inl (fun _ => -1)))
  rw [h1, vp_cgr (g := fun _ => -1) (fun j hj => by unfold fl; rw [if_pos hj])]
def rmF : Jvm.Room := { frames := 0, cells := 0, slots := 0, locals := 0 }
theorem c_fillR (l : Launch) (D : va_G) (C : Nat → ClassId) (q sz : Nat) : Met l (yN 74) (wsM 74) rmF (va_Pc [.ref q, .int (-1)] (fun U => U.heap.size = sz ∧ va_P D vwCl [(q, .inl (C 1, 12, .inl (fun _ => 0)))] U.heap ∧ va_K D vwCl (tysC C) U ∧ NwC U)) (va_Qv (fun _ : Unit => True) (fun _ t => va_P D vwCl [(q, .inl (C 1, 12, .inl (fun _ => -1)))] t.heap ∧ va_D (va_A [(q, .inl (C 1, 12, .inl (fun _ => 0)))] sz) [(q, .inl (C 1, 12, .inl (fun _ => -1)))]) (va_A [(q, .inl (C 1, 12, .inl (fun _ => 0)))] sz)) 0 0 (va_A [(q, .inl (C 1, 12, .inl (fun _ => 0)))] sz) := by
  refine Met.ofW (cc := cN 74) (maxL := 4) (ret := none) (by decide +kernel) rfl ?_
  intro p e s m args below meth c s₁ B hml hv
  obtain ⟨rfl, hsz, hP, hK, hN⟩ := hv
  have hts := atoms_spec (ws := wsM 74) B.pre
  have hown : s.vm.findClass (oN 11) = some m.cls := findClass_of_methodNamed B.named
  have hlocks := B.notSynchronized
  subst hsz
  have hl := lv_entry ([.ref q, .int (-1)]) (n := 4) (Nat.le_of_ble_eq_true rfl)
  rw [lg_entry_eq]
  generalize (lg_sl ([.ref q, .int (-1)]) ++ List.replicate (4 - (lg_sl ([.ref q, .int (-1)])).length) Slot.unset).toArray = ls at hl ⊢
  have hl : lv_has ls 4 [(0, .ref q), (1, .int (-1))] := hl
  generalize hAe : va_A [(q, Sum.inl (C 1, 12, Sum.inl (fun _ => 0)))] s.heap.size = A
  have hAq : A q := by
    rw [← hAe]
    exact va_A.in (k := 0) (q := (q, Sum.inl (C 1, 12, Sum.inl (fun _ => 0)))) rfl
  have one : ∀ g : va_E, va_D A [(q, g)] := fun g => va_of_nodup (by simp) (fun z hz => by
    have : z = (q, g) := by simpa using hz
    subst this
    exact hAq)
  have F : Fq D C p s m #[.ref q, .int (-1)] c (cN 74) 4 11 A := ⟨⟨B.exec, B.bytes, hml, hown, fun w hw => hts w (List.mem_cons_of_mem _ hw)⟩, hN, hK, fun z hz => by rw [← hAe]; exact Or.inr hz⟩
  have e0 : (fun _ : Nat => (0 : Int32)) = fl 0 := by
    funext j
    unfold fl
    rw [if_neg (by omega)]
  rw [e0] at hP
  refine (?_ : Wc p l e rmF s m #[.ref q, .int (-1)] below meth c (MQ below (va_Qv (fun _ : Unit => True) (fun _ t => va_P D vwCl [(q, .inl (C 1, 12, .inl (fun _ => -1)))] t.heap ∧ va_D A [(q, .inl (C 1, 12, .inl (fun _ => -1)))]) A) #[.ref q, .int (-1)] s 0 0 A) D A 0 0 0 ls [] [(q, .inl (C 1, 12, .inl (fl 0)))]) s.heap [] ⟨hP, one _, va_S.rf⟩
  refine k_ic (pc := 0) (z := 0) (v := 0) F (by decide +kernel) (by decide) ?_
  refine k_ist (pc := 1) (k := 2) (i := 2) (lv' := [(2, .int 0), (0, .ref q), (1, .int (-1))]) F hl rfl (by decide) rfl (by decide +kernel) (fun ls hl => ?_)
  refine k_a0 (pc := 2) F (lv_at hl 1 rfl) (by decide +kernel) ?_
  refine k_len (pc := 3) F (by decide +kernel) ?_
  refine k_ist (pc := 4) (k := 3) (i := 3) (lv' := [(3, .int 12), (2, .int 0), (0, .ref q), (1, .int (-1))]) F hl rfl (by decide) rfl (by decide +kernel) (fun ls hl => ?_)
  refine fill_loop F (fun ls H locs hw => ?_) 12 0 ls rfl (lv_sub hl [1, 2, 3, 0] rfl)
  exact W.vret B.exec B.bytes B.returns (fun t ht hW => ⟨⟨(), rfl, trivial, by rw [ht]; exact fill_end hw.1, one _⟩, hw.2.2.F ht⟩) hw.2.2.2.2 d74_20 hlocks
/-- at the call of fill -/
theorem k_fill {p : Program} {l : Launch} {e : Env} {R : Jvm.Room} {s : State} {m : MethodId} {args : Array Value} {below : List Frame} {meth : Method} {c : Code} {cells slots : Nat} {Q : State → Prop} {D : va_G} {C : Nat → ClassId} {A : Nat → Prop} {cc : ByteArray} {nL o pc : Nat} {ls : Array Slot} {rest : List Value} {ws : va_W} {q j : Nat} (F : Fq D C p s m args c cc nL o A) (hlk : (o, j, 74) ∈ LM) (hfr : 1 ≤ R.frames) (hlo : 40 ≤ R.locals) (hc : cells ≤ R.cells) (hs : slots ≤ R.slots) (hsz : ls.size = nL) (hd : decode cc pc = .ok (.invokestatic j, 3)) (k : Wc p l e R s m args below meth c Q D A cells slots (pc + 3) ls [] ((q, .inl (C 1, 12, .inl (fun _ => -1))) :: ws)) : Wc p l e R s m args below meth c Q D A cells slots pc ls [.int (-1), .ref q] ((q, .inl (C 1, 12, .inl (fun _ => 0))) :: ws) := by
  intro H locs hw
  obtain ⟨hP, hD, hS⟩ := hw
  have hPc : va_P D vwCl [(q, Sum.inl (C 1, 12, Sum.inl (fun _ => 0)))] H := hP.sub (ws' := [(q, Sum.inl (C 1, 12, Sum.inl (fun _ => 0)))]) [0] rfl
  have hF := va_free (wc := [(q, Sum.inl (C 1, 12, Sum.inl (fun _ => 0)))]) hD hS F.2.2.2 [0] rfl
  obtain ⟨w1, w3, w4, w5⟩ := okS_74
  have hpre : PreS s H (va_Pc [.ref q, .int (-1)] (fun U => U.heap.size = H.size ∧ va_P D vwCl [(q, .inl (C 1, 12, .inl (fun _ => 0)))] U.heap ∧ va_K D vwCl (tysC C) U ∧ NwC U)) [.ref q, .int (-1)] :=
    ⟨fun a U g mk z => ⟨z.1, z.2.1, z.2.2.1, va_K.moved (u := U) (U := U.calling g mk a) (Vm.Alike.refl U.vm) z.2.2.2.1, nwC_same (U := U.calling g mk a) rfl z.2.2.2.2⟩, fun U hU hW => ⟨rfl, by rw [hU], by rw [hU]; exact hPc, va_K.moved hW.alike F.2.2.1, nwC_warm hW F.2.1⟩⟩
  have cw : CallB R s args (oN o) j (yN 74) (cN 74) (mL 74) (rT 74) (wsM 74) rmF 0 0 2 ∧ (Cond.static (yN 74)).before args s = true :=
    ⟨callB_of 2 F.1.2.2.2.2 (wsM_good 74 w4) rfl rfl rfl (by rw [w5]; exact F.1.2.2.2.2 _ w3) (F.1.2.2.2.2 _ (LM_ok _ hlk)) (by decide +kernel) ⟨hfr, by show 8 + (4 + 11) + 0 ≤ R.locals; omega⟩, F.1.2.2.2.2 _ w1⟩
  refine va_callv (va_runS (As := [.ref q, .int (-1)]) (rest := []) F.1 (c_fillR l D C q H.size) cw hpre rfl rfl hsz rfl (by show 2 * 0 + 0 ≤ 8; omega) hd ⟨by omega, by omega⟩) hS (fun q _ h => hF q h) hF (fun u t H2 locs2 ht hvm hw2 hB hz1 hk1 hS2 => ?_)
  obtain ⟨hB1, hB2⟩ := hB
  rw [ht] at hB1
  obtain ⟨hP3, hD3⟩ := va_joinQ (X := [(q, Sum.inl (C 1, 12, Sum.inl (fun _ => 0)))]) (wr := []) (w1 := [(q, Sum.inl (C 1, 12, Sum.inl (fun _ => -1)))]) (pl := ws) hP hD [0] [] rfl rfl (by decide) (by decide) hk1 hF hB1 hB2
  exact k H2 locs2 ⟨hP3, hD3, hS2⟩
