theorem catS_eq {Γ : GG} : ∀ r : List AV, ((r.map (cv Γ)).map fun v => v.category).sum = catS r
  | [] => rfl
  | v :: r => by
    simp only [List.map_cons, List.sum_cons, catS, catS_eq r]
    congr 1
    rcases v with x | x | ⟨a, b⟩ <;> rfl
theorem cpy_cnt {m : MI} {ks kd : Nat} {ps sp pd dp len : Int} (h0 : 0 ≤ sp) (h1 : 0 ≤ dp) (h2 : 0 ≤ len) : (fun i : Nat => Int32.ofInt (cpy m ks ps sp kd pd dp len kd pd (i : Int))) = va_cpy (fun i : Nat => Int32.ofInt (m ks ps (i : Int))) (fun i : Nat => Int32.ofInt (m kd pd (i : Int))) sp.toNat dp.toNat len.toNat := by
  funext i
  unfold cpy va_cpy
  by_cases hi : dp.toNat ≤ i ∧ i < dp.toNat + len.toNat
  · rw [if_pos hi, if_pos ⟨rfl, rfl, by omega, by omega⟩]
    congr 2
    omega
  · rw [if_neg hi, if_neg]
    rintro ⟨-, -, a, b⟩
    exact hi ⟨by omega, by omega⟩
theorem not_neg {x : Int} (h0 : 0 ≤ x) (h : x < 2147483648) : ¬ Int32.ofInt x < 0 := by
  rw [← ofI_0, ofI_lt ⟨by omega, by omega⟩ inr0]
  omega
theorem s_copy {Γ : GG} {d k pc : Nat} {ls : LV} {m : MI} {n : ML} {post : PO} {x ks kd : Nat} {ps pd sp dp len : Int} {r : List AV} (hd : decode (cN k) pc = .ok (.invokestatic x, 3)) (hl : (oI k, x) ∈ LA) (hkd : akind kd = 1 ∨ akind kd = 2) (hks : akind ks = akind kd) (hr : catS r ≤ 8) (hdd : 1 ≤ d) (hc : 0 ≤ sp ∧ 0 ≤ dp ∧ 0 ≤ len ∧ sp + len ≤ alen ks ∧ dp + len ≤ alen kd) (h : AM Γ d k (pc + 3) ls r (cpy m ks ps sp kd pd dp len) n post) : AM Γ d k pc ls (vi len :: vi dp :: vr kd pd :: vi sp :: vr ks ps :: r) m n post := by
  intro p e R s mm args below meth c A cells slots Q C H locs lc hW hS hL hV
  have hx := C.1.1
  have hb := C.1.2.1
  have hml := C.1.2.2.1
  have hown := C.1.2.2.2.1
  have hts := C.1.2.2.2.2.1
  have hnw := C.1.2.2.2.2.2.1
  have hfr := C.1.2.2.2.2.2.2.1
  have hlo := C.1.2.2.2.2.2.2.2.1
  have hce := C.1.2.2.2.2.2.2.2.2.1
  have hsl := C.1.2.2.2.2.2.2.2.2.2.1
  have hAA := C.1.2.2.2.2.2.2.2.2.2.2.1
  have hG := C.1.2.2.2.2.2.2.2.2.2.2.2.1
  obtain ⟨c0, c1, c2, c3, c4⟩ := hc
  have hd0 : kd ≠ 0 := by rintro rfl; rcases hkd with q | q <;> cases q
  have hs0 : ks ≠ 0 := by rintro rfl; rw [← hks] at hkd; rcases hkd with q | q <;> cases q
  have hvd := vd_of (okh (okt (okt hV))) hd0
  have hvs := vd_of (okh (okt (okt (okt (okt hV))))) hs0
  obtain ⟨i, hi⟩ := wl_at hvd
  obtain ⟨j, hj⟩ := wl_at hvs
  have he := wls_get (Γ := Γ) (m := m) (n := n) hi
  have hf := wls_get (Γ := Γ) (m := m) (n := n) hj
  have hal := aln_lt (kd := kd)
  have has := aln_lt (kd := ks)
  have hlk := LA_ok _ hl
  have hbits : Bits (cpy m ks ps sp kd pd dp len) := by
    intro k' p' i' hk'
    unfold cpy
    split
    · rename_i hq
      obtain ⟨rfl, -⟩ := hq
      exact hW.2.2.2.1 ks ps _ (hks.trans hk')
    · exact hW.2.2.2.1 k' p' i' hk'
  have hsv : Svd (cpy m ks ps sp kd pd dp len) := by
    intro p' i'
    rw [cpy_ne (by rintro ⟨rfl, -⟩; rcases hkd with q | q <;> cases q)]
    exact hW.2.2.2.2 p' i'
  have hm0 : cpy m ks ps sp kd pd dp len 0 = gS Γ := by
    rw [cpy_k (Ne.symm hd0)]
    exact hW.2.2.1
  have hR : (r.map fun v => (cv Γ v).category).sum ≤ 8 := by
    have := catS_eq (Γ := Γ) r
    rw [List.map_map] at this
    rw [show (r.map fun v => (cv Γ v).category) = List.map ((fun v => v.category) ∘ cv Γ) r from rfl, this]
    exact hr
  have e0 : (Int32.ofInt sp).toNatClampNeg = sp.toNat := clampN c0 (by omega)
  have e1 : (Int32.ofInt dp).toNatClampNeg = dp.toNat := clampN c1 (by omega)
  have e2 : (Int32.ofInt len).toNatClampNeg = len.toNat := clampN c2 (by omega)
  have key : ∀ (t : Nat) (t0 : Nat) (ty : FieldType), (t = 1 ∨ t = 2) → akind kd = t → akind ks = t → (tysW Γ)[t0]? = some (gC Γ t, ty) → refKind ty = false → (∀ q : Nat, fits ty (.int (Int32.ofInt (m ks ps (q : Int)))) = true) →
      W p Γ.1 e R s mm args below meth c H locs cells slots Q (F0 mm pc lc ((vi len :: vi dp :: vr kd pd :: vi sp :: vr ks ps :: r).map (cv Γ))) := by
    intro t t0 ty ht hkt hst hty hrk hfit
    rw [cnt_int hkt (by omega)] at he
    rw [cnt_int hst (by omega)] at hf
    refine va_copyi hx hb (hml.trans hL.1.1.symm) hown (hts _ hlk) (hts _ wa_nat) (hts _ wa_sta) (hts _ wa_ini) hW.2.1 hW.1 (wls_D hG hAA) hS j i t0 t0 hf he hty hty hrk (sp := Int32.ofInt sp) (dp := Int32.ofInt dp) (n := Int32.ofInt len) (not_neg c0 (by omega)) (not_neg c1 (by omega)) (not_neg c2 (by omega)) (by rw [e0, e2]; omega) (by rw [e1, e2]; omega) (fun q _ => hfit _) (by omega) ?_ hd (fun H1 locs1 hP1 _ hS1 => ?_)
    · have hnf : nativeFrameWords "java/lang/System" "arraycopy" 5 + 11 ≤ 32 := by decide +kernel
      rw [List.map_map]
      have : (List.map ((fun v => v.category) ∘ cv Γ) r).sum ≤ 8 := hR
      omega
    · rw [e0, e1, e2, ← cpy_cnt c0 c1 c2, wls_set hi (cnt_int hkt (by omega)) (fun k' p' hne _ => cnt_congr (cpy_ne hne) rfl)] at hP1
      exact h p e R s mm args below meth c A cells slots Q C H1 locs1 lc ⟨hP1, hW.2.1, hm0, hbits, hsv⟩ hS1 hL (okt (okt (okt (okt (okt hV)))))
  rcases hkd with hk1 | hk2
  · exact key 1 0 .int (Or.inl rfl) hk1 (hks.trans hk1) rfl rfl (fun q => rfl)
  · refine key 2 1 .boolean (Or.inr rfl) hk2 (hks.trans hk2) rfl rfl (fun q => ?_)
    rcases hW.2.2.2.1 ks ps q (hks.trans hk2) with z | z <;> rw [z] <;> decide +kernel
theorem wd_moved {Γ : GG} {m : MI} {n : ML} {s U : State} {H : Heap} (h : Wd Γ m n s H) (hvm : s.vm.Alike U.vm) : Wd Γ m n U H := ⟨h.1, va_K.moved hvm h.2.1, h.2.2⟩
theorem nws_warm {s U : State} (hW : s.WarmedH U.vm) (h : Nws s) : Nws U := ⟨va_Nw.warmM hW h.1, va_Nw.warmM hW h.2⟩
theorem nws_same {u U : State} (h : u.vm = U.vm) (hn : Nws u) : Nws U := ⟨va_Nw.same rfl h hn.1, va_Nw.same rfl h hn.2⟩
theorem pc_blind {Γ : GG} {m : MI} {n : ML} {av : List Value} : FrameBlind (va_Pc av (fun U => Wd Γ m n U U.heap ∧ Nws U)) :=
  fun a U g mk q => ⟨q.1, wd_moved (U := U.calling g mk a) q.2.1 (Vm.Alike.refl U.vm), nws_same (U := U.calling g mk a) rfl q.2.2⟩
theorem fr_A {Γ : GG} {A : Nat → Prop} (hAA : ∀ kk pp, vd kk pp → A (gA Γ kk pp)) : ∀ q, fr Γ q → A q := by
  rintro q ⟨kk, pp, h, rfl⟩
  exact hAA kk pp h
/-- behind a call -/
theorem call_on {Γ : GG} {pc : Nat} {rest : List AV} {p : Program} {e : Env} {R : Room} {s : State} {mm : MethodId} {args : Array Value} {below : List Frame} {meth : Method} {c : Code} {A : Nat → Prop} {cells slots : Nat} {Q : State → Prop} {H : Heap} {locs : List Loc} {lc : Array Slot} {st0 : List Value} {a : Array Value} {post' : PO}
    (hAA : ∀ kk pp, vd kk pp → A (gA Γ kk pp))
    (hr : va_Run p Γ.1 e R s mm args below meth c H locs cells slots 0 0 (F0 mm pc lc st0) (rest.map (cv Γ)) (Qm Γ post' a) (fr Γ)) (hS : va_S A s.heap H locs)
    (kk : ∀ (r : Option AV) (m' : MI) (n' : ML) (H1 : Heap) (locs1 : List Loc), post' r m' n' → Wd Γ m' n' s H1 → va_S A s.heap H1 locs1 → (∀ v, r = some v → okv v) → W p Γ.1 e R s mm args below meth c H1 locs1 cells slots Q (F0 mm (pc + 3) lc ((r.toList ++ rest).map (cv Γ)))) :
    W p Γ.1 e R s mm args below meth c H locs cells slots Q (F0 mm pc lc st0) := by
  intro T hT X
  obtain ⟨v, st₀, t, T', L, h0, X', hL, e1, e2, ⟨⟨r, m', n', hv, hp, hW', hok⟩, hz, hk⟩, st⟩ := hr T hT X
  cases hv
  rw [h0] at hz hk
  have hal : s.vm.Alike t.vm := by rw [← e2]; exact X'.warmed.alike
  have g := kk r m' n' T'.heap (locs ++ L) hp (by rw [e1]; exact wd_moved hW' hal.symm)
    ⟨Nat.le_trans hS.1 (by rw [e1]; exact hz), fun q h1 h2 => by
      rw [e1, hk q (Nat.lt_of_lt_of_le h1 hS.1) (fun z => h2 (fr_A hAA _ z))]
      exact hS.2.1 q h1 h2, fun q hq => by
      rcases List.mem_append.mp hq with h | h
      · exact hS.2.2 q h
      · exact fr_A hAA _ (hL q h)⟩ hok
  obtain ⟨t2, a1, b1⟩ := g T' rfl X'
  refine ⟨t2, st t2 ?_, b1⟩
  have e3 : (r.map (cv Γ)).toList ++ rest.map (cv Γ) = (r.toList ++ rest).map (cv Γ) := by
    cases r <;> simp
  rw [e3]
  exact a1
theorem popN_eq : ∀ (na : Nat) (acc st as rest : List AV), popN na acc st = some (as, rest) → ∃ ys, st = ys ++ rest ∧ as = ys.reverse ++ acc ∧ ys.length = na
  | 0, acc, st, as, rest, h => by
    simp only [popN, Option.some.injEq, Prod.mk.injEq] at h
    exact ⟨[], by simp [h.2], by simp [h.1], rfl⟩
  | na + 1, acc, [], as, rest, h => by simp [popN] at h
  | na + 1, acc, v :: r, as, rest, h => by
    simp only [popN] at h
    obtain ⟨ys, h1, h2, h3⟩ := popN_eq na (v :: acc) r as rest h
    exact ⟨v :: ys, by rw [h1]; rfl, by rw [h2]; simp, by simp [h3]⟩
theorem okr_okv {k : Nat} {v : AV} (h : okr k v) (hn : noS v = true) : okv v := by
  rcases v with x | x | ⟨a, b⟩
  · trivial
  · trivial
  · rcases h with h | ⟨-, h, -⟩
    · exact h
    · subst h; simp [noS] at hn
theorem okv_okr {k : Nat} {v : AV} (h : okv v) : okr k v := by
  rcases v with x | x | ⟨a, b⟩
  · trivial
  · trivial
  · exact Or.inl h
theorem oN_ne (o : Nat) : oN o ≠ "java/lang/invoke/MethodHandle" ∧ oN o ≠ "java/lang/invoke/VarHandle" := by
  by_cases h : o < 12
  · have : ∀ o, o < 12 → oN o ≠ "java/lang/invoke/MethodHandle" ∧ oN o ≠ "java/lang/invoke/VarHandle" := by decide +kernel
    exact this o h
  · have : oN o = "" := by
      unfold oN
      rw [List.getD_eq_getElem?_getD, List.getElem?_eq_none (by simp; omega)]
      rfl
    rw [this]
    decide
theorem wsM_good (k : Nat) (hc : Cond.code (yN k) (cN k) (mL k) (rT k) ∈ WS) : GoodIn WS (wsM k) := by
  intro w hw
  rcases List.mem_cons.mp hw with rfl | h
  · exact ws_good _ hc
  · exact ws_good _ h
theorem pre_S {Γ : GG} {m : MI} {n : ML} {s : State} {H : Heap} {as : List AV} (hW : Wd Γ m n s H) (hnw : Nws s) : PreS s H (va_Pc (as.map (cv Γ)) (fun U => Wd Γ m n U U.heap ∧ Nws U)) (as.map (cv Γ)) :=
  ⟨pc_blind, fun U hU hw => ⟨rfl, by rw [hU]; exact wd_moved hW hw.alike, nws_warm hw hnw⟩⟩
theorem s_callV {Γ : GG} {d k pc : Nat} {ls : LV} {m : MI} {n : ML} {post : PO} {x k2 na d2 : Nat} {as rest st : List AV} (hd : decode (cN k) pc = .ok (.invokevirtual x, 3)) (hl : (oI k, x, k2) ∈ LM) (hi : k2 ∈ LI) (hna : (parseMethodDescriptor (yN k2).desc).map (fun d => d.parameters.length + 1) = some na) (hm2 : mL k2 ≤ 20) (hdd : d = d2 + 1) (hp : popN na [] st = some (as, rest)) (hrc : recv (oI k2) as = true) (hns : as.all noS = true) (hcs : catS rest ≤ 8) (hC : CM Γ d2 k2 as m n (fun r m2 n2 => AM Γ d k (pc + 3) ls (r.toList ++ rest) m2 n2 post)) : AM Γ d k pc ls st m n post := by
  intro p e R s mm args below meth c A cells slots Q C H locs lc hW hS hL hV
  have hx := C.1.1
  have hb := C.1.2.1
  have hml := C.1.2.2.1
  have hown := C.1.2.2.2.1
  have hts := C.1.2.2.2.2.1
  have hnw := C.1.2.2.2.2.2.1
  have hfr := C.1.2.2.2.2.2.2.1
  have hlo := C.1.2.2.2.2.2.2.2.1
  have hce := C.1.2.2.2.2.2.2.2.2.1
  have hsl := C.1.2.2.2.2.2.2.2.2.2.1
  have hAA := C.1.2.2.2.2.2.2.2.2.2.2.1
  have hG := C.1.2.2.2.2.2.2.2.2.2.2.2.1
  obtain ⟨ys, e1, e2, e3⟩ := popN_eq _ _ _ _ _ hp
  rw [List.append_nil] at e2
  have hys : ys = as.reverse := by rw [e2, List.reverse_reverse]
  subst hys
  subst e1
  have hVa : ∀ v ∈ as, okv v := fun v hv => okr_okv (hV v (List.mem_append_left _ (List.mem_reverse.mpr hv))) (List.all_eq_true.mp hns v hv)
  have hVr : ∀ v ∈ rest, okr k v := fun v hv => hV v (List.mem_append_right _ hv)
  match as, hrc, hVa, e3, hC, hp with
  | [], hrc, _, _, _, _ => simp [recv] at hrc
  | .inl _ :: _, hrc, _, _, _, _ => simp [recv] at hrc
  | .inr (.inl _) :: _, hrc, _, _, _, _ => simp [recv] at hrc
  | .inr (.inr (kd, pp)) :: as', hrc, hVa, e3, hC, hp =>
    simp only [recv, Bool.and_eq_true, Nat.beq_eq] at hrc
    obtain ⟨hcx, h7⟩ := hrc
    have hvd : vd kd pp := hVa _ List.mem_cons_self
    obtain ⟨w1, w2, w3, w4, w5, w6⟩ := LI_ok _ hi
    have hlk := LM_ok _ hl
    obtain ⟨CC, T, N, ty, f1, f2, f3, f4, -⟩ := cls_fact h7
    obtain ⟨i, hiw⟩ := wl_at hvd
    have he := wls_get (Γ := Γ) (m := m) (n := n) hiw
    rw [cnt_obj h7] at he
    have hcell := va_recv hW.2.1 hW.1 f1 he
    have hne := oN_ne (oI k2)
    have hlen : as'.length + 1 = na := by simpa using e3
    have hM := hC hG hVa
    have cw : CallW R s args (oN (oI k)) (oN (oI k2)) x (yN k2) (cN k2) (mL k2) (rT k2) (wsM k2) (rmd d2) 0 0 as'.length := by
      refine cwV as'.length hts (fun w hw => ?_) rfl rfl rfl ⟨w5, by rw [w5]; exact hne.1, by rw [w5]; exact hne.2, ?_⟩ ⟨by show d2 + 1 ≤ R.frames; omega, by show 8 + (mL k2 + 11) + 40 * d2 ≤ R.locals; omega⟩
      · unfold wsV at hw
        rcases List.mem_append.mp hw with h1 | h1
        · simp only [List.mem_cons, List.not_mem_nil, or_false] at h1
          rcases h1 with rfl | rfl | rfl | rfl
          · exact ws_good _ hlk
          · exact ws_good _ w1
          · exact ws_good _ w2
          · exact ws_good _ w3
        · exact wsM_good k2 w4 w h1
      · cases hq : parseMethodDescriptor (yN k2).desc with
        | none => rw [hq] at hna; cases hna
        | some dd => rw [hq] at hna; simp at hna; simp; omega
    have hrun := va_runV (e := e) (R := R) (below := below) (meth := meth) (locs := locs) (As := as'.map (cv Γ)) (rest := rest.map (cv Γ)) (g := F0 mm pc lc (((.inr (.inr (kd, pp)) :: as').reverse ++ rest).map (cv Γ))) (b := gA Γ kd pp) ⟨hx, hb, hml, hown, hts⟩ hM cw ⟨pc_blind, by rw [← hcx, ← f4]; exact hcell, fun U hU hw => ⟨rfl, by rw [hU]; exact wd_moved hW hw.alike, nws_warm hw hnw⟩⟩ rfl (by simp) hL.1.1 (by simp [cv]) (by rw [catS_eq]; show 2 * 0 + _ ≤ 8; omega) hd ⟨by omega, by omega⟩
    refine call_on hAA hrun hS (fun r m2 n2 H1 locs1 hp2 hW1 hS1 hok => ?_)
    exact hp2 p e R s mm args below meth c A cells slots Q C H1 locs1 lc hW1 hS1 hL (fun v hv => by
      rcases List.mem_append.mp hv with h1 | h1
      · cases r with
        | none => cases h1
        | some z => simp at h1; subst h1; exact okv_okr (hok _ rfl)
      · exact hVr v h1)
theorem s_callS {Γ : GG} {d k pc : Nat} {ls : LV} {m : MI} {n : ML} {post : PO} {x k2 na d2 : Nat} {as rest st : List AV} (hd : decode (cN k) pc = .ok (.invokestatic x, 3)) (hl : (oI k, x, k2) ∈ LM) (hi : k2 ∈ LT) (hna : (parseMethodDescriptor (yN k2).desc).map (fun d => d.parameters.length) = some na) (hm2 : mL k2 ≤ 20) (hdd : d = d2 + 1) (hp : popN na [] st = some (as, rest)) (hns : as.all noS = true) (hcs : catS rest ≤ 8) (hC : CM Γ d2 k2 as m n (fun r m2 n2 => AM Γ d k (pc + 3) ls (r.toList ++ rest) m2 n2 post)) : AM Γ d k pc ls st m n post := by
  intro p e R s mm args below meth c A cells slots Q C H locs lc hW hS hL hV
  have hx := C.1.1
  have hb := C.1.2.1
  have hml := C.1.2.2.1
  have hown := C.1.2.2.2.1
  have hts := C.1.2.2.2.2.1
  have hnw := C.1.2.2.2.2.2.1
  have hfr := C.1.2.2.2.2.2.2.1
  have hlo := C.1.2.2.2.2.2.2.2.1
  have hce := C.1.2.2.2.2.2.2.2.2.1
  have hsl := C.1.2.2.2.2.2.2.2.2.2.1
  have hAA := C.1.2.2.2.2.2.2.2.2.2.2.1
  have hG := C.1.2.2.2.2.2.2.2.2.2.2.2.1
  obtain ⟨ys, e1, e2, e3⟩ := popN_eq _ _ _ _ _ hp
  rw [List.append_nil] at e2
  have hys : ys = as.reverse := by rw [e2, List.reverse_reverse]
  subst hys
  subst e1
  have hVa : ∀ v ∈ as, okv v := fun v hv => okr_okv (hV v (List.mem_append_left _ (List.mem_reverse.mpr hv))) (List.all_eq_true.mp hns v hv)
  have hVr : ∀ v ∈ rest, okr k v := fun v hv => hV v (List.mem_append_right _ hv)
  obtain ⟨w1, w3, w4, w5⟩ := LT_ok _ hi
  have hlk := LM_ok _ hl
  have hne := oN_ne (oI k2)
  have hlen : as.length = na := by simpa using e3
  have hM := hC hG hVa
  have cw : CallB R s args (oN (oI k)) x (yN k2) (cN k2) (mL k2) (rT k2) (wsM k2) (rmd d2) 0 0 as.length ∧ (Cond.static (yN k2)).before args s = true := by
    refine ⟨callB_of as.length hts (wsM_good k2 w4) rfl rfl rfl (by rw [w5]; exact hts _ w3) (hts _ hlk) ⟨by rw [w5]; exact hne.1, by rw [w5]; exact hne.2, ?_⟩ ⟨by show d2 + 1 ≤ R.frames; omega, by show 8 + (mL k2 + 11) + 40 * d2 ≤ R.locals; omega⟩, hts _ w1⟩
    cases hq : parseMethodDescriptor (yN k2).desc with
    | none => rw [hq] at hna; cases hna
    | some dd => rw [hq] at hna; simp at hna; simp; omega
  have hrun := va_runS (e := e) (R := R) (below := below) (meth := meth) (locs := locs) (As := as.map (cv Γ)) (rest := rest.map (cv Γ)) (g := F0 mm pc lc ((as.reverse ++ rest).map (cv Γ))) ⟨hx, hb, hml, hown, hts⟩ hM cw (pre_S hW hnw) rfl (by simp) hL.1.1 (by simp) (by rw [catS_eq]; show 2 * 0 + _ ≤ 8; omega) hd ⟨by omega, by omega⟩
  refine call_on hAA hrun hS (fun r m2 n2 H1 locs1 hp2 hW1 hS1 hok => ?_)
  exact hp2 p e R s mm args below meth c A cells slots Q C H1 locs1 lc hW1 hS1 hL (fun v hv => by
    rcases List.mem_append.mp hv with h1 | h1
    · cases r with
      | none => cases h1
      | some z => simp at h1; subst h1; exact okv_okr (hok _ rfl)
    · exact hVr v h1)
theorem s_callN {Γ : GG} {d k pc : Nat} {ls : LV} {m : MI} {n : ML} {post : PO} {x na d2 : Nat} {as rest st : List AV} (hd : decode (cN k) pc = .ok (.invokestatic x, 3)) (hl : (oI k = 3 ∧ x = 52) ∨ (oI k = 3 ∧ x = 52)) (hi : nwk ∈ LT) (hna : (parseMethodDescriptor (yN nwk).desc).map (fun d => d.parameters.length) = some na) (hm2 : mL nwk ≤ 20) (hdd : d = d2 + 1) (hp : popN na [] st = some (as, rest)) (hns : as.all noS = true) (hcs : catS rest ≤ 8) (hC : CM Γ d2 nwk as m n (fun r m2 n2 => AM Γ d k (pc + 3) ls (r.toList ++ rest) m2 n2 post)) : AM Γ d k pc ls st m n post := by
  intro p e R s mm args below meth c A cells slots Q C H locs lc hW hS hL hV
  have hx := C.1.1
  have hb := C.1.2.1
  have hml := C.1.2.2.1
  have hown := C.1.2.2.2.1
  have hts := C.1.2.2.2.2.1
  have hnw := C.1.2.2.2.2.2.1
  have hfr := C.1.2.2.2.2.2.2.1
  have hlo := C.1.2.2.2.2.2.2.2.1
  have hce := C.1.2.2.2.2.2.2.2.2.1
  have hsl := C.1.2.2.2.2.2.2.2.2.2.1
  have hAA := C.1.2.2.2.2.2.2.2.2.2.2.1
  have hG := C.1.2.2.2.2.2.2.2.2.2.2.2.1
  obtain ⟨ys, e1, e2, e3⟩ := popN_eq _ _ _ _ _ hp
  rw [List.append_nil] at e2
  have hys : ys = as.reverse := by rw [e2, List.reverse_reverse]
  subst hys
  subst e1
  have hVa : ∀ v ∈ as, okv v := fun v hv => okr_okv (hV v (List.mem_append_left _ (List.mem_reverse.mpr hv))) (List.all_eq_true.mp hns v hv)
  have hVr : ∀ v ∈ rest, okr k v := fun v hv => hV v (List.mem_append_right _ hv)
  obtain ⟨w1, w3, w4, w5⟩ := LT_ok _ hi
  have hne := oN_ne (oI nwk)
  have hlen : as.length = na := by simpa using e3
  have hM := hC hG hVa
  have hY : yN nwk = ⟨"NewspaperMakeup", "isWithin", "(III)Z"⟩ := by decide +kernel
  have hlk : va_Nw (.methodLinkNest (oN (oI k)) x (yN nwk) "NewspaperMakeup") s := by
    rw [hY]
    rcases hl with ⟨q1, rfl⟩ | ⟨q1, rfl⟩ <;> rw [q1]
    · exact hnw.1
    · exact hnw.2
  have cw : va_CN R s args (oN (oI k)) x (yN nwk) "NewspaperMakeup" (cN nwk) (mL nwk) (rT nwk) (wsM nwk) (rmd d2) 0 0 as.length ∧ (Cond.static (yN nwk)).before args s = true ∧ True := by
    refine ⟨va_cnB as.length hts (wsM_good nwk w4) rfl rfl rfl hlk (by rw [w5]; exact hts _ w3) ⟨by rw [w5]; exact hne.1, by rw [w5]; exact hne.2, ?_⟩ ⟨by show d2 + 1 ≤ R.frames; omega, by show 8 + (mL nwk + 11) + 40 * d2 ≤ R.locals; omega⟩, hts _ w1, trivial⟩
    cases hq : parseMethodDescriptor (yN nwk).desc with
    | none => rw [hq] at hna; cases hna
    | some dd => rw [hq] at hna; simp at hna; simp; omega
  have hrun := va_runSN (e := e) (R := R) (below := below) (meth := meth) (locs := locs) (As := as.map (cv Γ)) (rest := rest.map (cv Γ)) (g := F0 mm pc lc ((as.reverse ++ rest).map (cv Γ))) ⟨hx, hb, hml, hown, hts⟩ hM cw (pre_S hW hnw) rfl (by simp) hL.1.1 (by simp) (by rw [catS_eq]; show 2 * 0 + _ ≤ 8; omega) hd ⟨by omega, by omega⟩
  refine call_on hAA hrun hS (fun r m2 n2 H1 locs1 hp2 hW1 hS1 hok => ?_)
  exact hp2 p e R s mm args below meth c A cells slots Q C H1 locs1 lc hW1 hS1 hL (fun v hv => by
    rcases List.mem_append.mp hv with h1 | h1
    · cases r with
      | none => cases h1
      | some z => simp at h1; subst h1; exact okv_okr (hok _ rfl)
    · exact hVr v h1)
theorem s_max {Γ : GG} {d k pc : Nat} {ls : LV} {m : MI} {n : ML} {post : PO} {q : Nat} {x y : Int} {r : List AV} (hd : decode (cN k) pc = .ok (.invokestatic q, 3)) (hl : (oI k, q, nmx) ∈ LM) (hr : catS r ≤ 8) (hdd : 1 ≤ d) (hx0 : InR x) (hy0 : InR y) (h : AM Γ d k (pc + 3) ls (vi (if x < y then y else x) :: r) m n post) : AM Γ d k pc ls (vi y :: vi x :: r) m n post := by
  intro p e R s mm args below meth c A cells slots Q C H locs lc hW hS hL hV
  have hx := C.1.1
  have hb := C.1.2.1
  have hml := C.1.2.2.1
  have hown := C.1.2.2.2.1
  have hts := C.1.2.2.2.2.1
  have hnw := C.1.2.2.2.2.2.1
  have hfr := C.1.2.2.2.2.2.2.1
  have hlo := C.1.2.2.2.2.2.2.2.1
  have hce := C.1.2.2.2.2.2.2.2.2.1
  have hsl := C.1.2.2.2.2.2.2.2.2.2.1
  have hAA := C.1.2.2.2.2.2.2.2.2.2.2.1
  have hG := C.1.2.2.2.2.2.2.2.2.2.2.2.1
  have hlk := LM_ok _ hl
  obtain ⟨w1, w3, w4, w5⟩ := okS_72
  have e1 : yN nmx = Lib.Math.max.name := by decide +kernel
  have hlk2 : Cond.methodLink (oN (oI k)) q Lib.Math.max.name ∈ WS := by rw [← e1]; exact hlk
  have w1' : Cond.static Lib.Math.max.name ∈ WS := by rw [← e1]; exact w1
  have w3' : Cond.initialized "java/lang/Math" ∈ WS := w3
  have w4' : Cond.code Lib.Math.max.name Lib.Math.max.code 2 (some .int) ∈ WS := w4
  have hR : ((r.map (cv Γ)).map fun v => v.category).sum ≤ 8 := by rw [catS_eq]; exact hr
  refine va_mmax (x := Int32.ofInt x) (y := Int32.ofInt y) (rest := r.map (cv Γ)) hx hb (hml.trans hL.1.1.symm) hown (hts _ hlk2) (hts _ w1') (hts _ w3') (hts _ w4') (by omega) (by omega) hce hsl hd ?_
  have g := h p e R s mm args below meth c A cells slots Q C H locs lc hW hS hL (okc trivial (okt (okt hV)))
  have e2 : (if Int32.ofInt x < Int32.ofInt y then Int32.ofInt y else Int32.ofInt x) = Int32.ofInt (if x < y then y else x) := by
    by_cases hc : x < y
    · rw [if_pos hc, if_pos ((ofI_lt hx0 hy0).mpr hc)]
    · rw [if_neg hc, if_neg (fun z => hc ((ofI_lt hx0 hy0).mp z))]
  rw [e2]
  exact g
theorem s_ret {Γ : GG} {d k pc : Nat} {ls : LV} {m : MI} {n : ML} {post : PO} {r : Option AV} (hR : RetAt k pc r) (h : post r m n) : AM Γ d k pc ls r.toList m n post := by
  intro p e R s mm args below meth c A cells slots Q C H locs lc hW hS hL hV
  have hx := C.1.1
  have hb := C.1.2.1
  have hml := C.1.2.2.1
  have hown := C.1.2.2.2.1
  have hts := C.1.2.2.2.2.1
  have hnw := C.1.2.2.2.2.2.1
  have hfr := C.1.2.2.2.2.2.2.1
  have hlo := C.1.2.2.2.2.2.2.2.1
  have hce := C.1.2.2.2.2.2.2.2.2.1
  have hsl := C.1.2.2.2.2.2.2.2.2.2.1
  have hAA := C.1.2.2.2.2.2.2.2.2.2.2.1
  have hG := C.1.2.2.2.2.2.2.2.2.2.2.2.1
  exact C.2 r m n H locs lc pc h hW hS hR
theorem sw_get {x lo : Int} {T : Nat → Prop} : ∀ (ts : List Nat) (lo : Int), sw x lo T ts → ∀ (q : Nat) (t : Nat), ts[q]? = some t → x = lo + (q : Int) → T t
  | [], lo, _, q, t, h, _ => by simp at h
  | t0 :: r, lo, h, 0, t, hq, hx => by
    simp at hq
    subst hq
    exact h.1 (by omega)
  | t0 :: r, lo, h, q + 1, t, hq, hx => by
    rw [List.getElem?_cons_succ] at hq
    exact sw_get (x := x) (lo := lo) r (lo + 1) h.2 q t hq (by omega)
theorem tgs_get {pc : Nat} : ∀ (os : List Int) (ts : List Nat), tgs pc os ts = true → ∀ (q : Nat) (o : Int), os[q]? = some o → ∃ t, ts[q]? = some t ∧ (pc : Int) + o = (t : Int)
  | [], [], _, q, o, h => by simp at h
  | o0 :: os, t0 :: ts, h, 0, o, hq => by
    simp only [tgs, Bool.and_eq_true, decide_eq_true_eq] at h
    simp at hq
    subst hq
    exact ⟨t0, rfl, h.1⟩
  | o0 :: os, t0 :: ts, h, q + 1, o, hq => by
    simp only [tgs, Bool.and_eq_true, decide_eq_true_eq] at h
    rw [List.getElem?_cons_succ] at hq
    obtain ⟨t, h1, h2⟩ := tgs_get os ts h.2 q o hq
    exact ⟨t, by rw [List.getElem?_cons_succ]; exact h1, h2⟩
  | o0 :: os, [], h, q, o, hq => by simp [tgs] at h
  | [], t0 :: ts, h, q, o, hq => by simp at hq
theorem s_tsw {Γ : GG} {d k pc : Nat} {ls : LV} {m : MI} {n : ML} {post : PO} {df lo hi : Int} {os : Array Int} {len t0 : Nat} {ts : List Nat} {x : Int} {r : List AV} (hd : decode (cN k) pc = .ok (.tableswitch df lo hi os, len)) (h0 : (pc : Int) + df = (t0 : Int)) (ht : tgs pc os.toList ts = true) (hh : hi = lo + os.toList.length - 1) (hR : InR x) (h1 : x < lo ∨ hi < x → AM Γ d k t0 ls r m n post) (h2 : sw x lo (fun t => AM Γ d k t ls r m n post) ts) : AM Γ d k pc ls (vi x :: r) m n post := by
  intro p e R s mm args below meth c A cells slots Q C H locs lc hW hS hL hV
  have hx := C.1.1
  have hb := C.1.2.1
  have hml := C.1.2.2.1
  have hown := C.1.2.2.2.1
  have hts := C.1.2.2.2.2.1
  have hnw := C.1.2.2.2.2.2.1
  have hfr := C.1.2.2.2.2.2.2.1
  have hlo := C.1.2.2.2.2.2.2.2.1
  have hce := C.1.2.2.2.2.2.2.2.2.1
  have hsl := C.1.2.2.2.2.2.2.2.2.2.1
  have hAA := C.1.2.2.2.2.2.2.2.2.2.2.1
  have hG := C.1.2.2.2.2.2.2.2.2.2.2.2.1
  show W _ _ _ _ _ _ _ _ _ _ _ _ _ _ _ (F0 mm pc lc (.int (Int32.ofInt x) :: r.map (cv Γ)))
  by_cases hc : x < lo ∨ hi < x
  · exact lv_tableOut hx hb hd (by rw [toI hR]; exact hc) h0 (h1 hc p e R s mm args below meth c A cells slots Q C H locs lc hW hS hL (okt hV))
  · have hq : (x - lo).toNat < os.toList.length := by omega
    obtain ⟨t, g1, g2⟩ := tgs_get os.toList ts ht (x - lo).toNat _ (List.getElem?_eq_getElem hq)
    have g3 := sw_get (x := x) (lo := lo) ts lo h2 (x - lo).toNat t g1 (by omega)
    exact lv_tableIn (off := os.toList[(x - lo).toNat]) hx hb hd (by rw [toI hR]; omega) (by rw [toI hR]; omega) (by rw [toI hR, ← Array.getElem?_toList]; exact List.getElem?_eq_getElem hq) g2 (g3 p e R s mm args below meth c A cells slots Q C H locs lc hW hS hL (okt hV))
theorem lsw_get {pc t0 : Nat} {x df : Int} {T : Nat → Prop} (h0 : (pc : Int) + df = (t0 : Int)) : ∀ (ps : List (Int × Int)) (ts : List Nat), tgs pc (ps.map (fun q => q.2)) ts = true → lsw x T t0 ps ts → ∃ t, T t ∧ (pc : Int) + Op.lookupswitch.offset ps df x = (t : Int)
  | [], [], _, h => ⟨t0, h, h0⟩
  | (a, o) :: ps, t :: ts, ht, h => by
    simp only [List.map_cons, tgs, Bool.and_eq_true, decide_eq_true_eq] at ht
    simp only [lsw] at h
    rw [Op.lookupswitch.offset_cons]
    by_cases hc : x = a
    · subst hc
      exact ⟨t, h.1 rfl, by rw [if_pos rfl]; exact ht.1⟩
    · obtain ⟨t', g1, g2⟩ := lsw_get h0 ps ts ht.2 (h.2 hc)
      exact ⟨t', g1, by rw [if_neg (fun q => hc q.symm)]; exact g2⟩
  | [], _ :: _, _, h => h.elim
  | _ :: _, [], _, h => h.elim
theorem s_lsw {Γ : GG} {d k pc : Nat} {ls : LV} {m : MI} {n : ML} {post : PO} {df : Int} {ps : Array (Int × Int)} {len t0 : Nat} {ts : List Nat} {x : Int} {r : List AV} (hd : decode (cN k) pc = .ok (.lookupswitch df ps, len)) (h0 : (pc : Int) + df = (t0 : Int)) (ht : tgs pc (ps.toList.map (fun q => q.2)) ts = true) (hh : (ps.toList.zip (ps.toList.drop 1)).all (fun (a, next) => a.1 < next.1) = true) (hR : InR x) (h2 : lsw x (fun t => AM Γ d k t ls r m n post) t0 ps.toList ts) : AM Γ d k pc ls (vi x :: r) m n post := by
  intro p e R s mm args below meth c A cells slots Q C H locs lc hW hS hL hV
  have hx := C.1.1
  have hb := C.1.2.1
  have hml := C.1.2.2.1
  have hown := C.1.2.2.2.1
  have hts := C.1.2.2.2.2.1
  have hnw := C.1.2.2.2.2.2.1
  have hfr := C.1.2.2.2.2.2.2.1
  have hlo := C.1.2.2.2.2.2.2.2.1
  have hce := C.1.2.2.2.2.2.2.2.2.1
  have hsl := C.1.2.2.2.2.2.2.2.2.2.1
  have hAA := C.1.2.2.2.2.2.2.2.2.2.2.1
  have hG := C.1.2.2.2.2.2.2.2.2.2.2.2.1
  show W _ _ _ _ _ _ _ _ _ _ _ _ _ _ _ (F0 mm pc lc (.int (Int32.ofInt x) :: r.map (cv Γ)))
  obtain ⟨t, g1, g2⟩ := lsw_get h0 ps.toList ts ht h2
  exact lv_lookup hx hb hd hh rfl (by rw [toI hR]; exact g2) (g1 p e R s mm args below meth c A cells slots Q C H locs lc hW hS hL (okt hV))
