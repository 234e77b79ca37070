-- THE CONSTRUCTORS: what each instruction of theirs does to a world that is a list
def nwP : Cond := .methodLinkNest RX5 9 yX2_init RX5
def nwT : Cond := .methodLinkNest RX5 29 yX4_init RX5
def nwM : Cond := .methodLinkNest RX5 36 yX1_init RX5
def nwS : Cond := .methodLinkNest RX1 11 yX3_init RX5
def NwC (U : State) : Prop := (va_Nw nwP U ∧ va_Nw nwT U) ∧ (va_Nw nwM U ∧ va_Nw nwS U) ∧ va_AO RX2 U
theorem nwC_warm {s U : State} (hW : s.WarmedH U.vm) (h : NwC s) : NwC U := ⟨⟨va_Nw.warmM hW h.1.1, va_Nw.warmM hW h.1.2⟩, ⟨va_Nw.warmM hW h.2.1.1, va_Nw.warmM hW h.2.1.2⟩, h.2.2.moved hW.alike⟩
theorem nwC_same {u U : State} (h : u.vm = U.vm) (hn : NwC u) : NwC U := ⟨⟨va_Nw.same rfl h hn.1.1, va_Nw.same rfl h hn.1.2⟩, ⟨va_Nw.same rfl h hn.2.1.1, va_Nw.same rfl h hn.2.1.2⟩, hn.2.2.moved (by rw [h]; exact Vm.Alike.refl U.vm)⟩
abbrev tysC (C : Nat → ClassId) : List (ClassId × FieldType) := [(C 1, .int), (C 2, .boolean), (C 1, .int), (C 4, .long), (C 5, .object RX2)]
theorem perm_mid {α : Type} (x y : α) (t : List α) : ((x :: t) ++ [y]).Perm (x :: y :: t) := (List.perm_append_comm (l₁ := t) (l₂ := [y])).cons x
theorem perm_P {D : va_G} {cl : List vw_C} {ws ws' : va_W} {H : Heap} (h : ws.Perm ws') (hP : va_P D cl ws H) : va_P D cl ws' H := fun k q hk => by
  obtain ⟨i, hi⟩ := List.getElem?_of_mem (h.mem_iff.mpr (List.mem_of_getElem? hk))
  exact hP i q hi
theorem va_nodup {A : Nat → Prop} {ws : va_W} (h : va_D A ws) : (ws.map Prod.fst).Nodup := by
  refine List.pairwise_iff_getElem.mpr (fun i j hi hj hij he => ?_)
  rw [List.getElem_map, List.getElem_map] at he
  have := h.1 i j _ _ (List.getElem?_eq_getElem (by simpa using hi)) (List.getElem?_eq_getElem (by simpa using hj)) he
  omega
theorem va_of_nodup {A : Nat → Prop} {ws : va_W} (h : (ws.map Prod.fst).Nodup) (hA : ∀ q ∈ ws, A q.1) : va_D A ws := by
  refine ⟨fun i j p q hi hj he => ?_, fun k q hk => hA q (List.mem_of_getElem? hk)⟩
  have h0 : i < (ws.map Prod.fst).length := by
    rw [List.length_map]
    exact (List.getElem?_eq_some_iff.mp hi).1
  refine (List.getElem?_inj h0 h).mp ?_
  rw [List.getElem?_map, List.getElem?_map, hi, hj]
  exact congrArg some he
theorem perm_D {A : Nat → Prop} {ws ws' : va_W} (h : ws.Perm ws') (hD : va_D A ws) : va_D A ws' :=
  va_of_nodup ((h.map Prod.fst).nodup_iff.mp (va_nodup hD)) (fun q hq => by
    obtain ⟨i, hi⟩ := List.getElem?_of_mem (h.mem_iff.mpr hq)
    exact hD.2 i q hi)
def Wo (D : va_G) (A : Nat → Prop) (s : State) (ws : va_W) (H : Heap) (locs : List Loc) : Prop := va_P D vwCl ws H ∧ va_D A ws ∧ va_S A s.heap H locs
theorem Wo.perm {D : va_G} {A : Nat → Prop} {s : State} {ws ws' : va_W} {H : Heap} {locs : List Loc} (h : ws.Perm ws') (hw : Wo D A s ws H locs) : Wo D A s ws' H locs := ⟨perm_P h hw.1, perm_D h hw.2.1, hw.2.2⟩
def Fq (D : va_G) (C : Nat → ClassId) (p : Program) (s : State) (m : MethodId) (args : Array Value) (c : Code) (cc : ByteArray) (nL o : Nat) (A : Nat → Prop) : Prop :=
  (p.tables.exec = Jvm.exec ∧ c.code = cc ∧ c.maxLocals = nL ∧ s.vm.findClass (oN o) = some m.cls ∧ (∀ w ∈ WS, w.before args s = true)) ∧ NwC s ∧ va_K D vwCl (tysC C) s ∧ ∀ q : Nat, s.heap.size ≤ q → A q
def Wc (p : Program) (l : Launch) (e : Env) (R : Jvm.Room) (s : State) (m : MethodId) (args : Array Value) (below : List Frame) (meth : Method) (c : Code) (Q : State → Prop) (D : va_G) (A : Nat → Prop) (cells slots pc : Nat) (ls : Array Slot) (st : List Value) (ws : va_W) : Prop :=
  ∀ (H : Heap) (locs : List Loc), Wo D A s ws H locs → W p l e R s m args below meth c H locs cells slots Q (F0 m pc ls st)
def ClOK (ci : Nat) (CC : String) (T : u_T) (N : Nat) (ty : Nat → FieldType) : Prop := vwCl[ci]? = some (CC, T, N) ∧ (∀ w ∈ u_ws CC T N, w ∈ WS) ∧ (∀ k, k < N → parseFieldDescriptor (T k).2.2.1 = some (ty k)) ∧ (∀ a, a < N → ∀ b, b < N → a ≠ b → (T a).2.1 ≠ (T b).2.1) ∧ (∀ k, k < N → (T k).1 = CC) ∧ oN ci = CC ∧ tX ci = T
theorem cl_0 : ClOK 0 RX0 TX0 12 tyX0 := ⟨rfl, wl_X0, tyX0_ok, nmX0, by decide +kernel, rfl, rfl⟩
theorem cl_1 : ClOK 1 RX1 TX1 2 tyX1 := ⟨rfl, wl_X1, tyX1_ok, nmX1, by decide +kernel, rfl, rfl⟩
theorem cl_2 : ClOK 2 RX2 TX2 11 tyX2 := ⟨rfl, wl_X2, tyX2_ok, nmX2, by decide +kernel, rfl, rfl⟩
theorem cl_3 : ClOK 3 RX3 TX3 4 tyX3 := ⟨rfl, wl_X3, tyX3_ok, nmX3, by decide +kernel, rfl, rfl⟩
theorem cl_4 : ClOK 4 RX4 TX4 4 tyX4 := ⟨rfl, wl_X4, tyX4_ok, nmX4, by decide +kernel, rfl, rfl⟩
theorem cl_5 : ClOK 5 RX5 TX5 7 tyX5 := ⟨rfl, wl_X5, tyX5_ok, nmX5, by decide +kernel, rfl, rfl⟩
theorem w_oi : Cond.instanceMethod Lib.objectInit ∈ WS := mt1 (i := 19) (by decide +kernel) rfl
theorem w_oc : Cond.code Lib.objectInit ⟨#[0xb1]⟩ 1 none ∈ WS := mt1 (i := 20) (by decide +kernel) rfl
theorem Wc.perm {p : Program} {l : Launch} {e : Env} {R : Jvm.Room} {s : State} {m : MethodId} {args : Array Value} {below : List Frame} {meth : Method} {c : Code} {cells slots : Nat} {Q : State → Prop} {D : va_G} {A : Nat → Prop} {pc : Nat} {ls : Array Slot} {ws ws' : va_W} {st : List Value} (h : ws.Perm ws') (k : Wc p l e R s m args below meth c Q D A cells slots pc ls st ws') : Wc p l e R s m args below meth c Q D A cells slots pc ls st ws := fun H locs hw => k H locs (hw.perm h)
theorem k_a0 {p : Program} {l : Launch} {e : Env} {R : Jvm.Room} {s : State} {m : MethodId} {args : Array Value} {below : List Frame} {meth : Method} {c : Code} {cells slots : Nat} {Q : State → Prop} {D : va_G} {C : Nat → ClassId} {A : Nat → Prop} {cc : ByteArray} {nL o pc : Nat} {ls : Array Slot} {rest : List Value} {ws : va_W} {a : Nat} (F : Fq D C p s m args c cc nL o A) (hl : ls[0]? = some (.val (.ref a))) (hd : decode cc pc = .ok (.aload_n 0, 1)) (k : Wc p l e R s m args below meth c Q D A cells slots (pc + 1) ls (.ref a :: rest) ws) : Wc p l e R s m args below meth c Q D A cells slots pc ls rest ws :=
  fun H locs hw => lv_aload_n F.1.1 F.1.2.1 hd rfl hl (k H locs hw)
theorem k_ic {p : Program} {l : Launch} {e : Env} {R : Jvm.Room} {s : State} {m : MethodId} {args : Array Value} {below : List Frame} {meth : Method} {c : Code} {cells slots : Nat} {Q : State → Prop} {D : va_G} {C : Nat → ClassId} {A : Nat → Prop} {cc : ByteArray} {nL o pc : Nat} {ls : Array Slot} {rest : List Value} {ws : va_W} {z : Int} {v : Int32} (F : Fq D C p s m args c cc nL o A) (hd : decode cc pc = .ok (.iconst z, 1)) (hv : Int32.ofInt z = v) (k : Wc p l e R s m args below meth c Q D A cells slots (pc + 1) ls (.int v :: rest) ws) : Wc p l e R s m args below meth c Q D A cells slots pc ls rest ws :=
  fun H locs hw => lv_iconst F.1.1 F.1.2.1 hd hv (k H locs hw)
theorem k_bp {p : Program} {l : Launch} {e : Env} {R : Jvm.Room} {s : State} {m : MethodId} {args : Array Value} {below : List Frame} {meth : Method} {c : Code} {cells slots : Nat} {Q : State → Prop} {D : va_G} {C : Nat → ClassId} {A : Nat → Prop} {cc : ByteArray} {nL o pc : Nat} {ls : Array Slot} {rest : List Value} {ws : va_W} {z : Int} {v : Int32} (F : Fq D C p s m args c cc nL o A) (hd : decode cc pc = .ok (.bipush z, 2)) (hv : (Int8.ofInt z).toInt32 = v) (k : Wc p l e R s m args below meth c Q D A cells slots (pc + 2) ls (.int v :: rest) ws) : Wc p l e R s m args below meth c Q D A cells slots pc ls rest ws :=
  fun H locs hw => lv_bipush F.1.1 F.1.2.1 hd hv (k H locs hw)
theorem k_sp {p : Program} {l : Launch} {e : Env} {R : Jvm.Room} {s : State} {m : MethodId} {args : Array Value} {below : List Frame} {meth : Method} {c : Code} {cells slots : Nat} {Q : State → Prop} {D : va_G} {C : Nat → ClassId} {A : Nat → Prop} {cc : ByteArray} {nL o pc : Nat} {ls : Array Slot} {rest : List Value} {ws : va_W} {z : Int} {v : Int32} (F : Fq D C p s m args c cc nL o A) (hd : decode cc pc = .ok (.sipush z, 3)) (hv : (Int16.ofInt z).toInt32 = v) (k : Wc p l e R s m args below meth c Q D A cells slots (pc + 3) ls (.int v :: rest) ws) : Wc p l e R s m args below meth c Q D A cells slots pc ls rest ws :=
  fun H locs hw => lv_sipush F.1.1 F.1.2.1 hd hv (k H locs hw)
theorem k_lc {p : Program} {l : Launch} {e : Env} {R : Jvm.Room} {s : State} {m : MethodId} {args : Array Value} {below : List Frame} {meth : Method} {c : Code} {cells slots : Nat} {Q : State → Prop} {D : va_G} {C : Nat → ClassId} {A : Nat → Prop} {cc : ByteArray} {nL o pc : Nat} {ls : Array Slot} {rest : List Value} {ws : va_W} {z : Fin 2} {v : Int64} (F : Fq D C p s m args c cc nL o A) (hd : decode cc pc = .ok (.lconst z, 1)) (hv : Int64.ofNat (z : Nat) = v) (k : Wc p l e R s m args below meth c Q D A cells slots (pc + 1) ls (.long v :: rest) ws) : Wc p l e R s m args below meth c Q D A cells slots pc ls rest ws :=
  fun H locs hw => lv_lconst F.1.1 F.1.2.1 hd hv (k H locs hw)
theorem k_super {p : Program} {l : Launch} {e : Env} {R : Jvm.Room} {s : State} {m : MethodId} {args : Array Value} {below : List Frame} {meth : Method} {c : Code} {cells slots : Nat} {Q : State → Prop} {D : va_G} {C : Nat → ClassId} {A : Nat → Prop} {cc : ByteArray} {nL o pc : Nat} {ls : Array Slot} {rest : List Value} {ws : va_W} {a x : Nat} (F : Fq D C p s m args c cc nL o A) (hl : Cond.methodLink (oN o) x Lib.objectInit ∈ WS) (hs : ls.size = nL) (hf : 1 ≤ R.frames) (hlo : 12 ≤ R.locals) (hd : decode cc pc = .ok (.invokespecial x, 3)) (k : Wc p l e R s m args below meth c Q D A cells slots (pc + 3) ls [] ws) : Wc p l e R s m args below meth c Q D A cells slots pc ls [.ref a] ws :=
  fun H locs hw => W.objInit F.1.1 F.1.2.1 F.1.2.2.2.1 (F.1.2.2.2.2 _ hl) (F.1.2.2.2.2 _ w_oi) (F.1.2.2.2.2 _ w_oc) rfl (by rw [F.1.2.2.1]; exact hs) rfl hd hf (by show 2 * 0 + 0 + 12 ≤ R.locals; omega) (W.eq (g2 := F0 m (pc + 3) ls []) rfl (k H locs hw))
theorem k_put {p : Program} {l : Launch} {e : Env} {R : Jvm.Room} {s : State} {m : MethodId} {args : Array Value} {below : List Frame} {meth : Method} {c : Code} {cells slots : Nat} {Q : State → Prop} {D : va_G} {C : Nat → ClassId} {A : Nat → Prop} {cc : ByteArray} {nL pc : Nat} {ls : Array Slot} {rest : List Value} {ws : va_W} {ci N x k : Nat} {CC : String} {T : u_T} {ty : Nat → FieldType} {a : Nat} {v : Value} {fs : List Value} (F : Fq D C p s m args c cc nL ci A) (hin : meth.name = "<init>") (hC : ClOK ci CC T N ty) (hf : (ci, x, ci, k) ∈ LF) (hk : k < N) (hn : narrow (ty k) v = v) (hfit : fits (ty k) v = true) (hl : k < fs.length) (hd : decode cc pc = .ok (.putfield x, 3)) (kk : Wc p l e R s m args below meth c Q D A cells slots (pc + 3) ls rest ((a, .inr (ci, fs.set k v)) :: ws)) : Wc p l e R s m args below meth c Q D A cells slots pc ls (v :: .ref a :: rest) ((a, .inr (ci, fs)) :: ws) := by
  intro H locs hw
  obtain ⟨hP, hD, hS⟩ := hw
  obtain ⟨c1, c2, c3, c4, c5, c6, c7⟩ := hC
  have hlk : Cond.fieldLink (oN ci) x (T k).1 (T k).2.1 (T k).2.2.1 ∈ WS := by
    have h := LF_ok _ hf
    unfold okF at h
    rw [← c7]
    exact h
  cases hfin : (T k).2.2.2 with
  | false => exact va_put (D := D) (ci := ci) (v := v) (ty := ty k) (C := CC) (T := T) (N := N) F.1.1 F.1.2.1 F.1.2.2.2.2 c2 ty c3 c4 F.1.2.2.2.1 F.2.2.1 hP hD hS 0 rfl c1 k hk (F.1.2.2.2.2 _ hlk) (fun _ h9 => h9) hfin (c3 k hk) hn hfit hl hd (fun H1 locs1 h1 h2 h3 => kk H1 locs1 ⟨h1, h2, h3⟩)
  | true => exact va_putF (D := D) (ci := ci) (v := v) (ty := ty k) (C := CC) (T := T) (N := N) F.1.1 F.1.2.1 F.1.2.2.2.2 c2 ty c3 c4 F.1.2.2.2.1 F.2.2.1 hP hD hS 0 rfl c1 k hk (F.1.2.2.2.2 _ hlk) (fun _ h9 => h9) hfin hin (by rw [c5 k hk, c6]) (c3 k hk) hn hfit hl hd (fun H1 locs1 h1 h2 h3 => kk H1 locs1 ⟨h1, h2, h3⟩)
theorem k_get {p : Program} {l : Launch} {e : Env} {R : Jvm.Room} {s : State} {m : MethodId} {args : Array Value} {below : List Frame} {meth : Method} {c : Code} {cells slots : Nat} {Q : State → Prop} {D : va_G} {C : Nat → ClassId} {A : Nat → Prop} {cc : ByteArray} {nL pc : Nat} {ls : Array Slot} {rest : List Value} {ws : va_W} {ci N x k : Nat} {CC : String} {T : u_T} {ty : Nat → FieldType} {a : Nat} {v : Value} {fs : List Value} (F : Fq D C p s m args c cc nL ci A) (hC : ClOK ci CC T N ty) (hf : (ci, x, ci, k) ∈ LF) (hk : k < N) (hv : fs[k]? = some v) (hd : decode cc pc = .ok (.getfield x, 3)) (kk : Wc p l e R s m args below meth c Q D A cells slots (pc + 3) ls (v :: rest) ((a, .inr (ci, fs)) :: ws)) : Wc p l e R s m args below meth c Q D A cells slots pc ls (.ref a :: rest) ((a, .inr (ci, fs)) :: ws) := by
  intro H locs hw
  obtain ⟨hP, hD, hS⟩ := hw
  obtain ⟨c1, c2, c3, c4, c5, c6, c7⟩ := hC
  have hlk : Cond.fieldLink (oN ci) x (T k).1 (T k).2.1 (T k).2.2.1 ∈ WS := by
    have h := LF_ok _ hf
    unfold okF at h
    rw [← c7]
    exact h
  exact va_get (D := D) (ci := ci) (v := v) (C := CC) (T := T) (N := N) F.1.1 F.1.2.1 F.1.2.2.2.2 c2 F.1.2.2.2.1 F.2.2.1 hP 0 rfl c1 k hk (F.1.2.2.2.2 _ hlk) (fun _ h9 => h9) hv hd (kk H locs ⟨hP, hD, hS⟩)
theorem ra_eq {U : State} {c1 c2 : ClassId} {ty : FieldType} (h1 : va_RA U c1 ty) (h2 : va_RA U c2 ty) : c1 = c2 := by
  have g : ∀ c, va_RA U c ty → U.vm.findClass ("[" ++ ty.toString) = some c := by
    intro c h
    cases ty with
    | object x =>
      obtain ⟨k1, k2, h3, h4, h5, h6⟩ := h
      exact h6
    | _ => exact h
  exact Option.some.inj ((g c1 h1).symm.trans (g c2 h2))
theorem k_newa {p : Program} {l : Launch} {e : Env} {R : Jvm.Room} {s : State} {m : MethodId} {args : Array Value} {below : List Frame} {meth : Method} {c : Code} {cells slots : Nat} {Q : State → Prop} {D : va_G} {C : Nat → ClassId} {A : Nat → Prop} {cc : ByteArray} {nL o pc : Nat} {ls : Array Slot} {rest : List Value} {ws : va_W} {x : Nat × va_E} {atype : ArrayType} {ty : FieldType} {n : Int32} {N' j : Nat} {cI : ClassId} {a0 : vp_A} (F : Fq D C p s m args c cc nL o A) (harr : Cond.arrayClass (newarray.typeOf atype) ∈ WS) (hty : newarray.typeOf atype = ty) (hj : (tysC C)[j]? = some (cI, ty)) (ha : ∀ cA : ClassId, vp_cell cA a0 = arrV cA N' (fun _ => defaultValue ty)) (hn : ¬ n < 0) (hN : n.toNatClampNeg = N') (hb : N' * componentBytes ty ≤ 536870912) (hc : cells + 1 ≤ R.cells) (hs : slots + N' ≤ R.slots) (hd : decode cc pc = .ok (.newarray atype, 2)) (k : ∀ q : Nat, Wc p l e R s m args below meth c Q D A (cells + 1) (slots + N') (pc + 2) ls (.ref q :: rest) (x :: (q, .inl (cI, a0)) :: ws)) : Wc p l e R s m args below meth c Q D A cells slots pc ls (.int n :: rest) (x :: ws) := by
  intro H locs hw
  obtain ⟨hP, hD, hS⟩ := hw
  refine va_newa F.1.1 F.1.2.1 (F.1.2.2.2.2 _ harr) hty F.2.2.1 hP hD hS F.2.2.2 (a0 := a0) ha hn hN hb hc hs hd (fun q cA H1 hK1 hP1 hD1 hS1 => ?_)
  have e : cA = cI := ra_eq (hK1.2 5 (cA, ty) rfl).2 (F.2.2.1.2 j (cI, ty) hj).2
  subst e
  exact k q H1 locs (Wo.perm (perm_mid _ _ _) ⟨hP1, hD1, hS1⟩)
theorem k_newq {p : Program} {l : Launch} {e : Env} {R : Jvm.Room} {s : State} {m : MethodId} {args : Array Value} {below : List Frame} {meth : Method} {c : Code} {cells slots : Nat} {Q : State → Prop} {D : va_G} {C : Nat → ClassId} {A : Nat → Prop} {cc : ByteArray} {nL o pc : Nat} {ls : Array Slot} {rest : List Value} {ws : va_W} {x : Nat × va_E} {n : Int32} {N' i : Nat} (F : Fq D C p s m args c cc nL o A) (hcl : Cond.classLink (oN o) i RX2 ∈ WS) (hn : ¬ n < 0) (hN : n.toNatClampNeg = N') (hb : N' * 4 ≤ 536870912) (hc : cells + 1 ≤ R.cells) (hs : slots + N' ≤ R.slots) (hd : decode cc pc = .ok (.anewarray i, 3)) (k : ∀ q : Nat, Wc p l e R s m args below meth c Q D A (cells + 1) (slots + N') (pc + 3) ls (.ref q :: rest) (x :: (q, .inl (C 5, N', .inr (.inr (.inr (.inr (fun _ => none)))))) :: ws)) : Wc p l e R s m args below meth c Q D A cells slots pc ls (.int n :: rest) (x :: ws) := by
  intro H locs hw
  obtain ⟨hP, hD, hS⟩ := hw
  refine va_newq F.1.1 F.1.2.1 F.1.2.2.2.1 (F.1.2.2.2.2 _ hcl) F.2.1.2.2 F.2.2.1 hP hD hS F.2.2.2 hn hN hb hc hs hd (fun q cA H1 hK1 hP1 hD1 hS1 => ?_)
  have e : cA = C 5 := ra_eq (hK1.2 5 (cA, .object RX2) rfl).2 (F.2.2.1.2 4 (C 5, .object RX2) rfl).2
  subst e
  exact k q H1 locs (Wo.perm (perm_mid _ _ _) ⟨hP1, hD1, hS1⟩)
/-- a constructor's contract: its world w, made at its object, out of its own cells and new ones -/
def preI (D : va_G) (C : Nat → ClassId) (h0 sz ci : Nat) (fs : List Value) : State → Prop := fun U => U.heap.size = sz ∧ va_P D vwCl [(h0, .inr (ci, fs))] U.heap ∧ va_K D vwCl (tysC C) U ∧ NwC U
def CI (l : Launch) (D : va_G) (C : Nat → ClassId) (y : MethodName) (cc : ByteArray) (nL : Nat) (rm : Jvm.Room) (ci : Nat) (fs : List Value) (w : Nat → (Nat → Nat) → va_W) (mc ms : Nat) : Prop :=
  ∀ h0 sz : Nat, Met l y (Cond.code y cc nL none :: WS) rm (va_Pc [.ref h0] (preI D C h0 sz ci fs)) (va_Qv (fun _ : Nat → Nat => True) (fun a t => va_P D vwCl (w h0 a) t.heap ∧ va_D (va_A [(h0, .inr (ci, fs))] sz) (w h0 a)) (va_A [(h0, .inr (ci, fs))] sz)) mc ms (va_A [(h0, .inr (ci, fs))] sz)
theorem ci_of {l : Launch} {D : va_G} {C : Nat → ClassId} {y : MethodName} {cc : ByteArray} {nL : Nat} {rm : Jvm.Room} {ci : Nat} {fs : List Value} {w : Nat → (Nat → Nat) → va_W} {mc ms : Nat} (hy : plainName y.cls = true) (ho : y.cls = oN ci) (hnm : y.name = "<init>") (hnL : 1 ≤ nL)
    (h : ∀ (p : Program) (e : Env) (s : State) (m : MethodId) (args : Array Value) (below : List Frame) (meth : Method) (c : Code) (A : Nat → Prop) (Q : State → Prop) (h0 : Nat) (ls : Array Slot), Fq D C p s m args c cc nL ci A → meth.name = "<init>" → lv_has ls nL [(0, .ref h0)] →
      (∀ (a : Nat → Nat) (ls : Array Slot) (pc : Nat), decode cc pc = .ok (.return_, 1) → Wc p l e rm s m args below meth c Q D A mc ms pc ls [] (w h0 a)) → Wc p l e rm s m args below meth c Q D A 0 0 0 ls [] [(h0, .inr (ci, fs))]) : CI l D C y cc nL rm ci fs w mc ms := by
  intro h0 sz
  refine Met.ofW (cc := cc) (maxL := nL) (ret := none) hy rfl ?_
  intro p e s m args below meth c s₁ B hml hv
  obtain ⟨rfl, hsz, hP, hK, hN⟩ := hv
  have hts := atoms_spec (ws := Cond.code y cc nL none :: WS) B.pre
  have hown : s.vm.findClass y.cls = some m.cls := findClass_of_methodNamed B.named
  rw [ho] at hown
  have hlocks := B.notSynchronized
  have hin : meth.name = "<init>" := (name_of_methodNamed B.named B.method).1.trans hnm
  subst hsz
  have hl := lv_entry ([.ref h0]) (n := nL) hnL
  rw [lg_entry_eq]
  generalize (lg_sl ([.ref h0]) ++ List.replicate (nL - (lg_sl ([.ref h0])).length) Slot.unset).toArray = ls at hl ⊢
  have hl : lv_has ls nL [(0, .ref h0)] := hl
  have hD : va_D (va_A [(h0, Sum.inr (ci, fs))] s.heap.size) [(h0, Sum.inr (ci, fs))] := va_of_nodup (by simp) (fun q hq => by
    have : q = (h0, Sum.inr (ci, fs)) := by simpa using hq
    subst this
    exact va_A.in (k := 0) rfl)
  refine h p e s m _ below meth c (va_A [(h0, Sum.inr (ci, fs))] s.heap.size) _ h0 ls ⟨⟨B.exec, B.bytes, hml, hown, fun w hw => hts w (List.mem_cons_of_mem _ hw)⟩, hN, hK, fun q hq => Or.inr hq⟩ hin hl (fun a ls pc hd H locs hw => ?_) s.heap [] ⟨hP, hD, va_S.rf⟩
  exact W.vret B.exec B.bytes B.returns (fun t ht hW => ⟨⟨a, rfl, trivial, by rw [ht]; exact hw.1, hw.2.1⟩, hw.2.2.F ht⟩) hw.2.2.2.2 hd
theorem pre_ok {D : va_G} {C : Nat → ClassId} {q ci : Nat} {fs : List Value} {s : State} {H : Heap} (hP : va_P D vwCl [(q, .inr (ci, fs))] H) (hK : va_K D vwCl (tysC C) s) (hN : NwC s) : PreS s H (va_Pc [.ref q] (preI D C q H.size ci fs)) [.ref q] :=
  ⟨fun a U g mk z => ⟨z.1, z.2.1, z.2.2.1, va_K.moved (u := U) (U := U.calling g mk a) (Vm.Alike.refl U.vm) z.2.2.2.1, nwC_same (U := U.calling g mk a) rfl z.2.2.2.2⟩, fun U hU hW => ⟨rfl, by rw [hU], by rw [hU]; exact hP, va_K.moved hW.alike hK, nwC_warm hW hN⟩⟩
theorem ws_init {y : MethodName} {cc : ByteArray} {nL : Nat} (hc : Cond.code y cc nL none ∈ WS) : GoodIn WS (Cond.code y cc nL none :: WS) := by
  intro w hw
  rcases List.mem_cons.mp hw with rfl | h
  · exact ws_good _ hc
  · exact ws_good _ h
theorem k_mk {p : Program} {l : Launch} {e : Env} {R : Jvm.Room} {s : State} {m : MethodId} {args : Array Value} {below : List Frame} {meth : Method} {c : Code} {cells slots : Nat} {Q : State → Prop} {D : va_G} {C : Nat → ClassId} {A : Nat → Prop} {cc : ByteArray} {nL o pc : Nat} {ls : Array Slot} {rest : List Value} {ws : va_W} {X : va_W} {ci N i j nL2 mc ms : Nat} {CC : String} {T : u_T} {ty : Nat → FieldType} {fs : List Value} {y2 : MethodName} {cc2 : ByteArray} {rm : Jvm.Room} {w : Nat → (Nat → Nat) → va_W} (F : Fq D C p s m args c cc nL o A) (hM : CI l D C y2 cc2 nL2 rm ci fs w mc ms) (hC : ClOK ci CC T N ty) (hcl : Cond.classLink (oN o) i CC ∈ WS) (hinst : Cond.instantiable CC N ∈ WS) (hini : Cond.initialized CC ∈ WS) (hfs : ∀ j, j < N → defaultValue (ty j) = vp_V fs j) (hlk : Cond.methodLink (oN o) j y2 ∈ WS) (him : Cond.instanceMethod y2 ∈ WS) (hc2 : Cond.code y2 cc2 nL2 none ∈ WS) (hy1 : y2.name = "<init>") (hy2 : y2.cls = oN ci) (hdn : y2.cls ≠ "java/lang/invoke/MethodHandle" ∧ y2.cls ≠ "java/lang/invoke/VarHandle" ∧ (parseMethodDescriptor y2.desc).map (fun d => d.parameters.length) = some 0) (hrc : rm.cells = mc) (hrs : rm.slots = ms)
    (hfr : rm.frames + 1 ≤ R.frames) (hlo : 8 + (nL2 + 11) + rm.locals ≤ R.locals) (hc : cells + 1 + mc ≤ R.cells) (hs : slots + N + ms ≤ R.slots) (hsz : ls.size = nL) (hcat : 2 * 0 + ((Value.ref 0 :: rest).map fun v => v.category).sum ≤ 8) (hd1 : decode cc pc = .ok (.new i, 3)) (hd2 : decode cc (pc + 3) = .ok (.dup, 1)) (hd3 : decode cc (pc + 3 + 1) = .ok (.invokespecial j, 3))
    (k : ∀ (q : Nat) (a : Nat → Nat), Wc p l e R s m args below meth c Q D A (cells + 1 + mc) (slots + N + ms) (pc + 3 + 1 + 3) ls (.ref q :: rest) (X ++ (w q a ++ ws))) : Wc p l e R s m args below meth c Q D A cells slots pc ls rest (X ++ ws) := by
  intro H locs hw
  obtain ⟨hP, hD, hS⟩ := hw
  obtain ⟨c1, c2, c3, c4, c5, c6, c7⟩ := hC
  refine va_new (ci := ci) (fs := fs) (C := CC) (T := T) (N := N) F.1.1 F.1.2.1 F.1.2.2.2.2 c2 ty c3 F.1.2.2.2.1 (F.1.2.2.2.2 _ hcl) (F.1.2.2.2.2 _ hinst) (F.1.2.2.2.2 _ hini) F.2.2.1 hP hD hS F.2.2.2 c1 hfs (by omega) (by omega) hd1 (fun q H1 hP1 hD1 hS1 => ?_)
  refine lv_dup F.1.1 F.1.2.1 hd2 rfl ?_
  have hp : ((X ++ ws) ++ [(q, Sum.inr (ci, fs))]).Perm ([(q, Sum.inr (ci, fs))] ++ (X ++ ws)) := List.perm_append_comm
  have hP2 := perm_P hp hP1
  have hD2 := perm_D hp hD1
  have hPc : va_P D vwCl [(q, Sum.inr (ci, fs))] H1 := hP2.sub (ws' := [(q, Sum.inr (ci, fs))]) [0] rfl
  have hF := va_free (wc := [(q, Sum.inr (ci, fs))]) hD2 hS1 F.2.2.2 [0] rfl
  have hpre := pre_ok hPc F.2.2.1 F.2.1
  refine va_callv (va_runI (As := []) (rest := .ref q :: rest) F.1 (hM q H1.size) (cwI 0 F.1.2.2.2.2 (ws_init hc2) rfl hrc hrs (by rw [hy2, c6]; exact F.1.2.2.2.2 _ hini) (F.1.2.2.2.2 _ hlk) (F.1.2.2.2.2 _ him) hy1 hdn ⟨hfr, hlo⟩) hpre rfl rfl hsz rfl hcat hd3 ⟨by omega, by omega⟩) hS1 (fun q _ h => hF q h) hF (fun a t H2 locs2 ht hvm hw2 hB hz1 hk1 hS2 => ?_)
  obtain ⟨hB1, hB2⟩ := hB
  rw [ht] at hB1
  obtain ⟨hP3, hD3⟩ := va_joinQ (X := [(q, Sum.inr (ci, fs))]) (wr := []) (w1 := w q a) (pl := X ++ ws) hP2 hD2 [0] [] rfl rfl (by decide) (by decide) hk1 hF hB1 hB2
  have hp2 : ((([] : va_W) ++ w q a) ++ (X ++ ws)).Perm (X ++ (w q a ++ ws)) := by
    rw [List.nil_append, ← List.append_assoc, ← List.append_assoc]
    exact List.perm_append_comm.append_right ws
  exact k q a H2 locs2 (Wo.perm hp2 ⟨hP3, hD3, hS2⟩)
theorem k_mkN {p : Program} {l : Launch} {e : Env} {R : Jvm.Room} {s : State} {m : MethodId} {args : Array Value} {below : List Frame} {meth : Method} {c : Code} {cells slots : Nat} {Q : State → Prop} {D : va_G} {C : Nat → ClassId} {A : Nat → Prop} {cc : ByteArray} {nL o pc : Nat} {ls : Array Slot} {rest : List Value} {ws : va_W} {X : va_W} {ci N i j nL2 mc ms : Nat} {CC : String} {T : u_T} {ty : Nat → FieldType} {fs : List Value} {y2 : MethodName} {cc2 : ByteArray} {rm : Jvm.Room} {w : Nat → (Nat → Nat) → va_W} {nw : Cond} (F : Fq D C p s m args c cc nL o A) (hM : CI l D C y2 cc2 nL2 rm ci fs w mc ms) (hC : ClOK ci CC T N ty) (hcl : Cond.classLink (oN o) i CC ∈ WS) (hinst : Cond.instantiable CC N ∈ WS) (hini : Cond.initialized CC ∈ WS) (hfs : ∀ j, j < N → defaultValue (ty j) = vp_V fs j) (hlk : Cond.methodLinkNest (oN o) j y2 RX5 = nw) (hnw : va_Nw nw s) (him : Cond.instanceMethod y2 ∈ WS) (hc2 : Cond.code y2 cc2 nL2 none ∈ WS) (hy1 : y2.name = "<init>") (hy2 : y2.cls = oN ci) (hdn : y2.cls ≠ "java/lang/invoke/MethodHandle" ∧ y2.cls ≠ "java/lang/invoke/VarHandle" ∧ (parseMethodDescriptor y2.desc).map (fun d => d.parameters.length) = some 0) (hrc : rm.cells = mc) (hrs : rm.slots = ms)
    (hfr : rm.frames + 1 ≤ R.frames) (hlo : 8 + (nL2 + 11) + rm.locals ≤ R.locals) (hc : cells + 1 + mc ≤ R.cells) (hs : slots + N + ms ≤ R.slots) (hsz : ls.size = nL) (hcat : 2 * 0 + ((Value.ref 0 :: rest).map fun v => v.category).sum ≤ 8) (hd1 : decode cc pc = .ok (.new i, 3)) (hd2 : decode cc (pc + 3) = .ok (.dup, 1)) (hd3 : decode cc (pc + 3 + 1) = .ok (.invokespecial j, 3))
    (k : ∀ (q : Nat) (a : Nat → Nat), Wc p l e R s m args below meth c Q D A (cells + 1 + mc) (slots + N + ms) (pc + 3 + 1 + 3) ls (.ref q :: rest) (X ++ (w q a ++ ws))) : Wc p l e R s m args below meth c Q D A cells slots pc ls rest (X ++ ws) := by
  intro H locs hw
  obtain ⟨hP, hD, hS⟩ := hw
  obtain ⟨c1, c2, c3, c4, c5, c6, c7⟩ := hC
  refine va_new (ci := ci) (fs := fs) (C := CC) (T := T) (N := N) F.1.1 F.1.2.1 F.1.2.2.2.2 c2 ty c3 F.1.2.2.2.1 (F.1.2.2.2.2 _ hcl) (F.1.2.2.2.2 _ hinst) (F.1.2.2.2.2 _ hini) F.2.2.1 hP hD hS F.2.2.2 c1 hfs (by omega) (by omega) hd1 (fun q H1 hP1 hD1 hS1 => ?_)
  refine lv_dup F.1.1 F.1.2.1 hd2 rfl ?_
  have hp : ((X ++ ws) ++ [(q, Sum.inr (ci, fs))]).Perm ([(q, Sum.inr (ci, fs))] ++ (X ++ ws)) := List.perm_append_comm
  have hP2 := perm_P hp hP1
  have hD2 := perm_D hp hD1
  have hPc : va_P D vwCl [(q, Sum.inr (ci, fs))] H1 := hP2.sub (ws' := [(q, Sum.inr (ci, fs))]) [0] rfl
  have hF := va_free (wc := [(q, Sum.inr (ci, fs))]) hD2 hS1 F.2.2.2 [0] rfl
  have hpre := pre_ok hPc F.2.2.1 F.2.1
  refine va_callv (va_runIN (As := []) (rest := .ref q :: rest) F.1 (hM q H1.size) ⟨va_cnB 0 F.1.2.2.2.2 (ws_init hc2) rfl hrc hrs (by rw [hlk]; exact hnw) (by rw [hy2, c6]; exact F.1.2.2.2.2 _ hini) hdn ⟨hfr, hlo⟩, hy1, F.1.2.2.2.2 _ him⟩ hpre rfl rfl hsz rfl hcat hd3 ⟨by omega, by omega⟩) hS1 (fun q _ h => hF q h) hF (fun a t H2 locs2 ht hvm hw2 hB hz1 hk1 hS2 => ?_)
  obtain ⟨hB1, hB2⟩ := hB
  rw [ht] at hB1
  obtain ⟨hP3, hD3⟩ := va_joinQ (X := [(q, Sum.inr (ci, fs))]) (wr := []) (w1 := w q a) (pl := X ++ ws) hP2 hD2 [0] [] rfl rfl (by decide) (by decide) hk1 hF hB1 hB2
  have hp2 : ((([] : va_W) ++ w q a) ++ (X ++ ws)).Perm (X ++ (w q a ++ ws)) := by
    rw [List.nil_append, ← List.append_assoc, ← List.append_assoc]
    exact List.perm_append_comm.append_right ws
  exact k q a H2 locs2 (Wo.perm hp2 ⟨hP3, hD3, hS2⟩)
