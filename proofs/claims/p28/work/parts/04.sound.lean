theorem wl_vd {q : Nat × Int} (h : q ∈ wl) : vd q.1 q.2 := by
  simp only [wl, List.mem_flatMap, List.mem_map, List.mem_range] at h
  obtain ⟨k, hk, p, hp, rfl⟩ := h
  exact ⟨hk, by simp, by simpa using hp⟩
theorem wl_mem {k : Nat} {p : Int} (h : vd k p) : (k, p) ∈ wl := by
  simp only [wl, List.mem_flatMap, List.mem_map, List.mem_range]
  obtain ⟨h1, h2, h3⟩ := h
  exact ⟨k, h1, p.toNat, by omega, by simp [Int.toNat_of_nonneg h2]⟩
theorem wl_nd : wl.Nodup := by decide +kernel
theorem wl_at {k : Nat} {p : Int} (h : vd k p) : ∃ i : Nat, wl[i]? = some (k, p) := List.getElem?_of_mem (wl_mem h)
theorem wl_inj {i j : Nat} {q : Nat × Int} (hi : wl[i]? = some q) (hj : wl[j]? = some q) : i = j := by
  have h0 : i < wl.length := (List.getElem?_eq_some_iff.mp hi).1
  exact (List.getElem?_inj h0 wl_nd).mp (hi.trans hj.symm)
theorem wls_get {Γ : GG} {m : MI} {n : ML} {i : Nat} {q : Nat × Int} (h : wl[i]? = some q) : (wls Γ m n)[i]? = some (gA Γ q.1 q.2, cnt Γ m n q.1 q.2) := by
  simp [wls, List.getElem?_map, h]
theorem wls_got {Γ : GG} {m : MI} {n : ML} {i : Nat} {x : Nat × va_E} (h : (wls Γ m n)[i]? = some x) : ∃ q, wl[i]? = some q ∧ x = (gA Γ q.1 q.2, cnt Γ m n q.1 q.2) := by
  simp only [wls, List.getElem?_map] at h
  cases hq : wl[i]? with
  | none => rw [hq] at h; cases h
  | some q => rw [hq] at h; exact ⟨q, rfl, (Option.some.inj h).symm⟩
theorem wls_D {Γ : GG} {m : MI} {n : ML} {A : Nat → Prop} (hG : GOK Γ) (hA : ∀ kk pp, vd kk pp → A (gA Γ kk pp)) : va_D A (wls Γ m n) := by
  refine ⟨fun i j x y hi hj he => ?_, fun i x hi => ?_⟩
  · obtain ⟨q, hq, rfl⟩ := wls_got hi
    obtain ⟨q', hq', rfl⟩ := wls_got hj
    obtain ⟨e1, e2⟩ := hG _ _ _ _ (wl_vd (List.mem_of_getElem? hq)) (wl_vd (List.mem_of_getElem? hq')) he
    have : q = q' := Prod.ext e1 e2
    subst this
    exact wl_inj hq hq'
  · obtain ⟨q, hq, rfl⟩ := wls_got hi
    exact hA _ _ (wl_vd (List.mem_of_getElem? hq))
theorem wls_set {Γ : GG} {m m' : MI} {n n' : ML} {i k : Nat} {p : Int} {e : va_E} (hi : wl[i]? = some (k, p)) (he : cnt Γ m' n' k p = e) (ho : ∀ k' p', ¬ (k' = k ∧ p' = p) → vd k' p' → cnt Γ m' n' k' p' = cnt Γ m n k' p') : (wls Γ m n).set i (gA Γ k p, e) = wls Γ m' n' := by
  apply List.ext_getElem?
  intro j
  by_cases hj : i = j
  · subst hj
    have hlt : i < (wls Γ m n).length := by
      have := (List.getElem?_eq_some_iff.mp hi).1
      simpa [wls] using this
    rw [List.getElem?_set_self hlt, wls_get hi, he]
  · rw [List.getElem?_set_ne hj]
    cases hq : wl[j]? with
    | none => simp [wls, List.getElem?_map, hq]
    | some q =>
      rw [wls_get hq, wls_get hq, ho q.1 q.2 ?_ (wl_vd (List.mem_of_getElem? hq))]
      rintro ⟨rfl, rfl⟩
      exact hj (wl_inj hi hq)
theorem flds_congr {m m' : MI} {n n' : ML} {k : Nat} {p : Int} (h : m' k p = m k p) (hn : n' k = n k) : flds k p m' n' = flds k p m n := by
  unfold flds
  split <;> simp [h, hn]
theorem cnt_congr {Γ : GG} {m m' : MI} {n n' : ML} {k : Nat} {p : Int} (h : m' k p = m k p) (hn : n' k = n k) : cnt Γ m' n' k p = cnt Γ m n k p := by
  unfold cnt
  rw [flds_congr h hn, h, hn]
theorem up_ne {m : MI} {k k' : Nat} {p p' i v : Int} (h : ¬ (k' = k ∧ p' = p)) : up m k p i v k' p' = m k' p' := by
  funext j
  unfold up
  rw [if_neg]
  rintro ⟨a, b, -⟩
  exact h ⟨a, b⟩
theorem up_k {m : MI} {k k' : Nat} {p i v : Int} (h : k' ≠ k) : up m k p i v k' = m k' := by
  funext p' j
  unfold up
  rw [if_neg]
  rintro ⟨a, -⟩
  exact h a
theorem ul_ne {n : ML} {k k' : Nat} {i : Int} {v : Int64} (h : k' ≠ k) : ul n k i v k' = n k' := by
  funext j
  unfold ul
  rw [if_neg]
  rintro ⟨a, -⟩
  exact h a
theorem cpy_ne {m : MI} {ks kd k' : Nat} {ps sp pd dp len p' : Int} (h : ¬ (k' = kd ∧ p' = pd)) : cpy m ks ps sp kd pd dp len k' p' = m k' p' := by
  funext j
  unfold cpy
  rw [if_neg]
  rintro ⟨a, b, -⟩
  exact h ⟨a, b⟩
theorem cpy_k {m : MI} {ks kd k' : Nat} {ps sp pd dp len : Int} (h : k' ≠ kd) : cpy m ks ps sp kd pd dp len k' = m k' := by
  funext p'
  exact cpy_ne fun q => h q.1
theorem wd_up {Γ : GG} {m : MI} {n : ML} {s : State} {H H1 : Heap} {k : Nat} {p i v : Int} (h : Wd Γ m n s H) (hP : va_P Γ.2.1 vwCl (wls Γ (up m k p i v) n) H1) (h0 : k ≠ 0) (hb : akind k = 2 → v = 0 ∨ v = 1) (h2 : k = 2 → 0 ≤ v ∧ v < 8) : Wd Γ (up m k p i v) n s H1 := by
  refine ⟨hP, h.2.1, by rw [up_k (Ne.symm h0)]; exact h.2.2.1, fun k' p' i' hk => ?_, fun p' i' => ?_⟩
  · unfold up
    split
    · rename_i hc; obtain ⟨rfl, -⟩ := hc; exact hb hk
    · exact h.2.2.2.1 k' p' i' hk
  · unfold up
    split
    · rename_i hc; exact h2 hc.1.symm
    · exact h.2.2.2.2 p' i'
theorem mem_asc {Γ : GG} : ∀ (ls : LV) (i j : Nat) (w : Value), (j, w) ∈ asc Γ i ls ↔ ∃ u, i ≤ j ∧ ls[j - i]? = some (some u) ∧ w = cv Γ u
  | [], i, j, w => by simp [asc]
  | none :: t, i, j, w => by
    rw [asc, mem_asc t (i + 1) j w]
    constructor
    · rintro ⟨u, h1, h2, h3⟩
      refine ⟨u, by omega, ?_, h3⟩
      rw [show j - i = (j - (i + 1)) + 1 by omega, List.getElem?_cons_succ]; exact h2
    · rintro ⟨u, h1, h2, h3⟩
      by_cases hij : j = i
      · subst hij; simp at h2
      · refine ⟨u, by omega, ?_, h3⟩
        rw [show j - i = (j - (i + 1)) + 1 by omega, List.getElem?_cons_succ] at h2; exact h2
  | some v :: t, i, j, w => by
    rw [asc, List.mem_cons, mem_asc t (i + 1) j w]
    constructor
    · rintro (h | ⟨u, h1, h2, h3⟩)
      · cases h; exact ⟨v, Nat.le_refl _, by simp, rfl⟩
      · refine ⟨u, by omega, ?_, h3⟩
        rw [show j - i = (j - (i + 1)) + 1 by omega, List.getElem?_cons_succ]; exact h2
    · rintro ⟨u, h1, h2, h3⟩
      by_cases hij : j = i
      · subst hij; simp at h2; subst h2; exact Or.inl (by rw [h3])
      · refine Or.inr ⟨u, by omega, ?_, h3⟩
        rw [show j - i = (j - (i + 1)) + 1 by omega, List.getElem?_cons_succ] at h2; exact h2
theorem cv_cat {Γ : GG} (v : AV) : (cv Γ v).category = 2 ↔ isL (some v) = true := by
  rcases v with x | x | ⟨a, b⟩ <;> simp [cv, Value.category, isL]
theorem cv_cat1 {Γ : GG} {v : AV} (h : isL (some v) = false) : (cv Γ v).category = 1 := by
  rcases v with x | x | ⟨a, b⟩ <;> simp [cv, Value.category, isL] at *
theorem getD_some {ls : LV} {x : Nat} {v : AV} (h : ls.getD x none = some v) : ls[x]? = some (some v) := by
  rw [List.getD_eq_getElem?_getD] at h
  cases hx : ls[x]? with
  | none => rw [hx] at h; cases h
  | some u => rw [hx] at h; simp at h; rw [h]
theorem lok_at {Γ : GG} {k : Nat} {lc : Array Slot} {ls : LV} {x : Nat} {v : AV} (hL : LOK Γ k lc ls) (h : ls.getD x none = some v) : lc[x]? = some (.val (cv Γ v)) :=
  hL.1.2.2 (x, cv Γ v) ((mem_asc ls 0 x _).mpr ⟨v, Nat.zero_le _, by simpa using getD_some h, rfl⟩)
theorem lok_mem {Γ : GG} {k : Nat} {lc : Array Slot} {ls : LV} {x : Nat} {v : AV} (hL : LOK Γ k lc ls) (h : ls.getD x none = some v) : okr k v := hL.2.2 v (List.mem_of_getElem? (getD_some h))
theorem lok_sto {Γ : GG} {k : Nat} {lc lc' : Array Slot} {ls : LV} {x : Nat} {v : AV} (hL : LOK Γ k lc ls) (hp : prevL ls x = false) (hok : okr k v)
    (h : lv_has lc' (mL k) ((x, cv Γ v) :: (asc Γ 0 ls).filter (fun q => !(q.1 == x) && !(q.1 + 1 == x && q.2.category == 2)))) : LOK Γ k lc' (ls.set x (some v)) := by
  refine ⟨⟨h.1, h.2.1, fun q hq => h.2.2 q ?_⟩, by rw [List.length_set]; exact hL.2.1, fun u hu => ?_⟩
  · obtain ⟨j, w⟩ := q
    obtain ⟨u, -, h2, rfl⟩ := (mem_asc _ _ _ _).mp hq
    rw [Nat.sub_zero] at h2
    by_cases hj : x = j
    · subst hj
      have hlt : x < ls.length := by
        have := (List.getElem?_eq_some_iff.mp h2).1
        simpa using this
      rw [List.getElem?_set_self hlt] at h2
      cases h2
      exact List.mem_cons_self
    · rw [List.getElem?_set_ne hj] at h2
      refine List.mem_cons_of_mem _ (List.mem_filter.mpr ⟨(mem_asc _ _ _ _).mpr ⟨u, Nat.zero_le _, by simpa using h2, rfl⟩, ?_⟩)
      have h3 : ¬ (j + 1 = x ∧ (cv Γ u).category = 2) := by
        rintro ⟨rfl, h4⟩
        rw [cv_cat] at h4
        simp only [prevL, List.getD_eq_getElem?_getD, h2, Option.getD_some] at hp
        rw [hp] at h4; cases h4
      simp only [Bool.and_eq_true, Bool.not_eq_true', beq_eq_false_iff_ne, ne_eq, Bool.and_eq_false_iff, beq_iff_eq]
      refine ⟨fun e => hj e.symm, ?_⟩
      by_cases h5 : j + 1 = x
      · exact Or.inr fun h6 => h3 ⟨h5, h6⟩
      · exact Or.inl h5
  · rcases List.mem_or_eq_of_mem_set hu with h1 | h1
    · exact hL.2.2 u h1
    · cases h1; exact hok
theorem lok_sto2 {Γ : GG} {k : Nat} {lc lc' : Array Slot} {ls : LV} {x : Nat} {v : Int64} (hL : LOK Γ k lc ls) (hp : prevL ls x = false)
    (h : lv_has lc' (mL k) ((x, Value.long v) :: (asc Γ 0 ls).filter (fun q => !(q.1 == x) && (!(q.1 == x + 1) && !(q.1 + 1 == x && q.2.category == 2))))) : LOK Γ k lc' ((ls.set x (some (vl v))).set (x + 1) none) := by
  refine ⟨⟨h.1, h.2.1, fun q hq => h.2.2 q ?_⟩, by rw [List.length_set, List.length_set]; exact hL.2.1, fun u hu => ?_⟩
  · obtain ⟨j, w⟩ := q
    obtain ⟨u, -, h2, rfl⟩ := (mem_asc _ _ _ _).mp hq
    rw [Nat.sub_zero] at h2
    by_cases hj1 : x + 1 = j
    · subst hj1
      have hlt : x + 1 < (ls.set x (some (vl v))).length := by
        have := (List.getElem?_eq_some_iff.mp h2).1
        simpa using this
      rw [List.getElem?_set_self hlt] at h2
      cases h2
    rw [List.getElem?_set_ne hj1] at h2
    by_cases hj : x = j
    · subst hj
      have hlt : x < ls.length := by
        have := (List.getElem?_eq_some_iff.mp h2).1
        simpa using this
      rw [List.getElem?_set_self hlt] at h2
      cases h2
      exact List.mem_cons_self
    · rw [List.getElem?_set_ne hj] at h2
      refine List.mem_cons_of_mem _ (List.mem_filter.mpr ⟨(mem_asc _ _ _ _).mpr ⟨u, Nat.zero_le _, by simpa using h2, rfl⟩, ?_⟩)
      have h3 : ¬ (j + 1 = x ∧ (cv Γ u).category = 2) := by
        rintro ⟨rfl, h4⟩
        rw [cv_cat] at h4
        simp only [prevL, List.getD_eq_getElem?_getD, h2, Option.getD_some] at hp
        rw [hp] at h4; cases h4
      simp only [Bool.and_eq_true, Bool.not_eq_true', beq_eq_false_iff_ne, ne_eq, Bool.and_eq_false_iff, beq_iff_eq]
      refine ⟨fun e => hj e.symm, fun e => hj1 e.symm, ?_⟩
      by_cases h5 : j + 1 = x
      · exact Or.inr fun h6 => h3 ⟨h5, h6⟩
      · exact Or.inl h5
  · rcases List.mem_or_eq_of_mem_set hu with h1 | h1
    · rcases List.mem_or_eq_of_mem_set h1 with h1 | h1
      · exact hL.2.2 u h1
      · cases h1; exact trivial
    · cases h1
theorem okc {P : AV → Prop} {v : AV} {r : List AV} (h : P v) (hr : ∀ w ∈ r, P w) : ∀ w ∈ v :: r, P w := List.forall_mem_cons.mpr ⟨h, hr⟩
theorem okh {P : AV → Prop} {v : AV} {r : List AV} (h : ∀ w ∈ v :: r, P w) : P v := h v List.mem_cons_self
theorem okt {P : AV → Prop} {v : AV} {r : List AV} (h : ∀ w ∈ v :: r, P w) : ∀ w ∈ r, P w := fun w hw => h w (List.mem_cons_of_mem _ hw)
theorem inr_lo {x : Int} (h : InR x) : -2 ^ 31 ≤ x := by have := h.1; omega
theorem inr_hi {x : Int} (h : InR x) : x < 2 ^ 31 := by have := h.2; omega
theorem toI {x : Int} (h : InR x) : (Int32.ofInt x).toInt = x := Int32.toInt_ofInt_of_le (inr_lo h) (inr_hi h)
theorem ofI_eq {x y : Int} (hx : InR x) (hy : InR y) : Int32.ofInt x = Int32.ofInt y ↔ x = y := by rw [← Int32.toInt_inj, toI hx, toI hy]
theorem ofI_lt {x y : Int} (hx : InR x) (hy : InR y) : Int32.ofInt x < Int32.ofInt y ↔ x < y := by rw [Int32.lt_iff_toInt_lt, toI hx, toI hy]
theorem ofI_le {x y : Int} (hx : InR x) (hy : InR y) : Int32.ofInt x ≤ Int32.ofInt y ↔ x ≤ y := by rw [Int32.le_iff_toInt_le, toI hx, toI hy]
theorem ofI_0 : Int32.ofInt 0 = 0 := by decide +kernel
theorem inr0 : InR 0 := ⟨by omega, by omega⟩
theorem clampN {j : Int} (h0 : 0 ≤ j) (h1 : j < 4096) : (Int32.ofInt j).toNatClampNeg = j.toNat := by
  rw [Int32.toNatClampNeg_ofInt_of_le (by omega) (by omega)]
theorem vp_inI {j n : Int} (h : 0 ≤ j ∧ j < n) (hn : n < 4096) : vp_in (Int32.ofInt j) n.toNat := by
  rw [vp_in_iff, toI ⟨by omega, by omega⟩]
  omega
theorem aln_lt {kd : Nat} : alen kd < 4096 := by
  unfold alen
  split <;> omega
theorem ofI_back (x : Int32) : Int32.ofInt x.toInt = x := Int32.ofInt_toInt x

theorem s_iconst {Γ : GG} {d k pc : Nat} {ls : LV} {m : MI} {n : ML} {post : PO} {v : Int} {r : List AV} (hd : decode (cN k) pc = .ok (.iconst v, 1))  (h : AM Γ d k (pc + 1) ls (vi v :: r) m n post) : AM Γ d k pc ls r m n post := by
  intro p e R s mm args below meth c A cells slots Q C H locs lc hW hS hL hV
  have hx := C.1.1
  have hb := C.1.2.1
  have g := h p e R s mm args below meth c A cells slots Q C H locs lc hW hS hL (okc trivial hV)
  exact lv_iconst (v := Int32.ofInt v) hx hb hd rfl g
theorem s_bipush {Γ : GG} {d k pc : Nat} {ls : LV} {m : MI} {n : ML} {post : PO} {v : Int} {r : List AV} (hd : decode (cN k) pc = .ok (.bipush v, 2)) (hv : -128 ≤ v ∧ v < 128) (h : AM Γ d k (pc + 2) ls (vi v :: r) m n post) : AM Γ d k pc ls r m n post := by
  intro p e R s mm args below meth c A cells slots Q C H locs lc hW hS hL hV
  have hx := C.1.1
  have hb := C.1.2.1
  have g := h p e R s mm args below meth c A cells slots Q C H locs lc hW hS hL (okc trivial hV)
  exact lv_bipush (v := Int32.ofInt v) hx hb hd (by rw [← Int32.ofInt_int8ToInt, Int8.toInt_ofInt_of_le (by omega) (by omega)]) g
theorem s_sipush {Γ : GG} {d k pc : Nat} {ls : LV} {m : MI} {n : ML} {post : PO} {v : Int} {r : List AV} (hd : decode (cN k) pc = .ok (.sipush v, 3)) (hv : -32768 ≤ v ∧ v < 32768) (h : AM Γ d k (pc + 3) ls (vi v :: r) m n post) : AM Γ d k pc ls r m n post := by
  intro p e R s mm args below meth c A cells slots Q C H locs lc hW hS hL hV
  have hx := C.1.1
  have hb := C.1.2.1
  have g := h p e R s mm args below meth c A cells slots Q C H locs lc hW hS hL (okc trivial hV)
  exact lv_sipush (v := Int32.ofInt v) hx hb hd (by rw [← Int32.ofInt_int16ToInt, Int16.toInt_ofInt_of_le (by omega) (by omega)]) g
theorem s_lconst {Γ : GG} {d k pc : Nat} {ls : LV} {m : MI} {n : ML} {post : PO} {v : Fin 2} {r : List AV} (hd : decode (cN k) pc = .ok (.lconst v, 1)) (h : AM Γ d k (pc + 1) ls (vl (Int64.ofNat (v : Nat)) :: r) m n post) : AM Γ d k pc ls r m n post := by
  intro p e R s mm args below meth c A cells slots Q C H locs lc hW hS hL hV
  have hx := C.1.1
  have hb := C.1.2.1
  have g := h p e R s mm args below meth c A cells slots Q C H locs lc hW hS hL (okc trivial hV)
  exact lv_lconst hx hb hd rfl g
theorem s_ldc2 {Γ : GG} {d k pc : Nat} {ls : LV} {m : MI} {n : ML} {post : PO} {x : Nat} {q : Nat × Nat × Int64} {r : List AV} (hd : decode (cN k) pc = .ok (.ldc2_w x, 3)) (hq : q ∈ LCL) (ho : q.1 = oI k) (hx0 : q.2.1 = x) (h : AM Γ d k (pc + 3) ls (vl q.2.2 :: r) m n post) : AM Γ d k pc ls r m n post := by
  intro p e R s mm args below meth c A cells slots Q C H locs lc hW hS hL hV
  have hx := C.1.1
  have hb := C.1.2.1
  have g := h p e R s mm args below meth c A cells slots Q C H locs lc hW hS hL (okc trivial hV)
  subst hx0
  have hown := C.1.2.2.2.1
  rw [← ho] at hown
  exact lv_ldc2 (own := oN q.1) hx hb hown (C.1.2.2.2.2.1 _ (LCL_ok q hq)) hd g
theorem s_ldcw {Γ : GG} {d k pc : Nat} {ls : LV} {m : MI} {n : ML} {post : PO} {x : Nat} {q : Nat × Nat × Int} {r : List AV} (hd : decode (cN k) pc = .ok (.ldc_w x, 3)) (hq : q ∈ LCI) (ho : q.1 = oI k) (hx0 : q.2.1 = x) (h : AM Γ d k (pc + 3) ls (vi q.2.2 :: r) m n post) : AM Γ d k pc ls r m n post := by
  intro p e R s mm args below meth c A cells slots Q C H locs lc hW hS hL hV
  have hx := C.1.1
  have hb := C.1.2.1
  have g := h p e R s mm args below meth c A cells slots Q C H locs lc hW hS hL (okc trivial hV)
  subst hx0
  have hown := C.1.2.2.2.1
  rw [← ho] at hown
  exact lv_ldcw (own := oN q.1) (v := Int32.ofInt q.2.2) hx hb hown (C.1.2.2.2.2.1 _ (LCI_ok q hq)) hd g
theorem s_ldc {Γ : GG} {d k pc : Nat} {ls : LV} {m : MI} {n : ML} {post : PO} {x : Nat} {q : Nat × Nat × Int} {r : List AV} (hd : decode (cN k) pc = .ok (.ldc x, 2)) (hq : q ∈ LCI) (ho : q.1 = oI k) (hx0 : q.2.1 = x) (h : AM Γ d k (pc + 2) ls (vi q.2.2 :: r) m n post) : AM Γ d k pc ls r m n post := by
  intro p e R s mm args below meth c A cells slots Q C H locs lc hW hS hL hV
  have hx := C.1.1
  have hb := C.1.2.1
  have g := h p e R s mm args below meth c A cells slots Q C H locs lc hW hS hL (okc trivial hV)
  subst hx0
  have hown := C.1.2.2.2.1
  rw [← ho] at hown
  exact lv_ldc (own := oN q.1) (v := Int32.ofInt q.2.2) hx hb hown (C.1.2.2.2.2.1 _ (LCI_ok q hq)) hd g
theorem s_iload {Γ : GG} {d k pc : Nat} {ls : LV} {m : MI} {n : ML} {post : PO} {x : Nat} {v : Int} {r : List AV} (hd : decode (cN k) pc = .ok (.iload x, 2)) (hl : ls.getD x none = some (vi v)) (h : AM Γ d k (pc + 2) ls (vi v :: r) m n post) : AM Γ d k pc ls r m n post := by
  intro p e R s mm args below meth c A cells slots Q C H locs lc hW hS hL hV
  have hx := C.1.1
  have hb := C.1.2.1
  have g := h p e R s mm args below meth c A cells slots Q C H locs lc hW hS hL (okc (lok_mem hL hl) hV)
  exact lv_iload hx hb hd (lok_at hL hl) g
theorem s_iload_n {Γ : GG} {d k pc : Nat} {ls : LV} {m : MI} {n : ML} {post : PO} {x : Fin 4} {v : Int} {r : List AV} (hd : decode (cN k) pc = .ok (.iload_n x, 1)) (hl : ls.getD (x : Nat) none = some (vi v)) (h : AM Γ d k (pc + 1) ls (vi v :: r) m n post) : AM Γ d k pc ls r m n post := by
  intro p e R s mm args below meth c A cells slots Q C H locs lc hW hS hL hV
  have hx := C.1.1
  have hb := C.1.2.1
  have g := h p e R s mm args below meth c A cells slots Q C H locs lc hW hS hL (okc (lok_mem hL hl) hV)
  exact lv_iload_n hx hb hd rfl (lok_at hL hl) g
theorem s_lload {Γ : GG} {d k pc : Nat} {ls : LV} {m : MI} {n : ML} {post : PO} {x : Nat} {v : Int64} {r : List AV} (hd : decode (cN k) pc = .ok (.lload x, 2)) (hl : ls.getD x none = some (vl v)) (h : AM Γ d k (pc + 2) ls (vl v :: r) m n post) : AM Γ d k pc ls r m n post := by
  intro p e R s mm args below meth c A cells slots Q C H locs lc hW hS hL hV
  have hx := C.1.1
  have hb := C.1.2.1
  have g := h p e R s mm args below meth c A cells slots Q C H locs lc hW hS hL (okc (lok_mem hL hl) hV)
  exact lv_lload hx hb hd (lok_at hL hl) g
theorem s_lload_n {Γ : GG} {d k pc : Nat} {ls : LV} {m : MI} {n : ML} {post : PO} {x : Fin 4} {v : Int64} {r : List AV} (hd : decode (cN k) pc = .ok (.lload_n x, 1)) (hl : ls.getD (x : Nat) none = some (vl v)) (h : AM Γ d k (pc + 1) ls (vl v :: r) m n post) : AM Γ d k pc ls r m n post := by
  intro p e R s mm args below meth c A cells slots Q C H locs lc hW hS hL hV
  have hx := C.1.1
  have hb := C.1.2.1
  have g := h p e R s mm args below meth c A cells slots Q C H locs lc hW hS hL (okc (lok_mem hL hl) hV)
  exact lv_lload_n hx hb hd rfl (lok_at hL hl) g
theorem s_aload {Γ : GG} {d k pc : Nat} {ls : LV} {m : MI} {n : ML} {post : PO} {x : Nat} {v : Nat × Int} {r : List AV} (hd : decode (cN k) pc = .ok (.aload x, 2)) (hl : ls.getD x none = some (vr v.1 v.2)) (h : AM Γ d k (pc + 2) ls (vr v.1 v.2 :: r) m n post) : AM Γ d k pc ls r m n post := by
  intro p e R s mm args below meth c A cells slots Q C H locs lc hW hS hL hV
  have hx := C.1.1
  have hb := C.1.2.1
  have g := h p e R s mm args below meth c A cells slots Q C H locs lc hW hS hL (okc (lok_mem hL hl) hV)
  exact lv_aload hx hb hd (lok_at hL hl) g
theorem s_aload_n {Γ : GG} {d k pc : Nat} {ls : LV} {m : MI} {n : ML} {post : PO} {x : Fin 4} {v : Nat × Int} {r : List AV} (hd : decode (cN k) pc = .ok (.aload_n x, 1)) (hl : ls.getD (x : Nat) none = some (vr v.1 v.2)) (h : AM Γ d k (pc + 1) ls (vr v.1 v.2 :: r) m n post) : AM Γ d k pc ls r m n post := by
  intro p e R s mm args below meth c A cells slots Q C H locs lc hW hS hL hV
  have hx := C.1.1
  have hb := C.1.2.1
  have g := h p e R s mm args below meth c A cells slots Q C H locs lc hW hS hL (okc (lok_mem hL hl) hV)
  exact lv_aload_n hx hb hd rfl (lok_at hL hl) g
theorem s_istore {Γ : GG} {d k pc : Nat} {ls : LV} {m : MI} {n : ML} {post : PO} {x : Nat} {v : Int} {r : List AV} (hd : decode (cN k) pc = .ok (.istore x, 2)) (hlt : x < ls.length) (hp : prevL ls x = false) (h : AM Γ d k (pc + 2) (ls.set x (some (vi v))) r m n post) : AM Γ d k pc ls (vi v :: r) m n post := by
  intro p e R s mm args below meth c A cells slots Q C H locs lc hW hS hL hV
  have hx := C.1.1
  have hb := C.1.2.1
  show W _ _ _ _ _ _ _ _ _ _ _ _ _ _ _ (F0 mm pc lc (.int (Int32.ofInt v) :: r.map (cv Γ)))
  refine lv_istore hx hb hd hL.1 (by rw [← hL.2.1]; exact hlt) rfl (fun lc1 h1 => ?_)
  exact h p e R s mm args below meth c A cells slots Q C H locs lc1 hW hS (lok_sto hL hp (okh hV) h1) (okt hV)
theorem s_istore_n {Γ : GG} {d k pc : Nat} {ls : LV} {m : MI} {n : ML} {post : PO} {x : Fin 4} {v : Int} {r : List AV} (hd : decode (cN k) pc = .ok (.istore_n x, 1)) (hlt : (x : Nat) < ls.length) (hp : prevL ls (x : Nat) = false) (h : AM Γ d k (pc + 1) (ls.set (x : Nat) (some (vi v))) r m n post) : AM Γ d k pc ls (vi v :: r) m n post := by
  intro p e R s mm args below meth c A cells slots Q C H locs lc hW hS hL hV
  have hx := C.1.1
  have hb := C.1.2.1
  show W _ _ _ _ _ _ _ _ _ _ _ _ _ _ _ (F0 mm pc lc (.int (Int32.ofInt v) :: r.map (cv Γ)))
  refine lv_istore_n hx hb hd rfl hL.1 (by rw [← hL.2.1]; exact hlt) rfl (fun lc1 h1 => ?_)
  exact h p e R s mm args below meth c A cells slots Q C H locs lc1 hW hS (lok_sto hL hp (okh hV) h1) (okt hV)
theorem s_astore {Γ : GG} {d k pc : Nat} {ls : LV} {m : MI} {n : ML} {post : PO} {x : Nat} {v : Nat × Int} {r : List AV} (hd : decode (cN k) pc = .ok (.astore x, 2)) (hlt : x < ls.length) (hp : prevL ls x = false) (h : AM Γ d k (pc + 2) (ls.set x (some (vr v.1 v.2))) r m n post) : AM Γ d k pc ls (vr v.1 v.2 :: r) m n post := by
  intro p e R s mm args below meth c A cells slots Q C H locs lc hW hS hL hV
  have hx := C.1.1
  have hb := C.1.2.1
  show W _ _ _ _ _ _ _ _ _ _ _ _ _ _ _ (F0 mm pc lc (.ref (gA Γ v.1 v.2) :: r.map (cv Γ)))
  refine lv_astore hx hb hd hL.1 (by rw [← hL.2.1]; exact hlt) rfl (fun lc1 h1 => ?_)
  exact h p e R s mm args below meth c A cells slots Q C H locs lc1 hW hS (lok_sto hL hp (okh hV) h1) (okt hV)
theorem s_astore_n {Γ : GG} {d k pc : Nat} {ls : LV} {m : MI} {n : ML} {post : PO} {x : Fin 4} {v : Nat × Int} {r : List AV} (hd : decode (cN k) pc = .ok (.astore_n x, 1)) (hlt : (x : Nat) < ls.length) (hp : prevL ls (x : Nat) = false) (h : AM Γ d k (pc + 1) (ls.set (x : Nat) (some (vr v.1 v.2))) r m n post) : AM Γ d k pc ls (vr v.1 v.2 :: r) m n post := by
  intro p e R s mm args below meth c A cells slots Q C H locs lc hW hS hL hV
  have hx := C.1.1
  have hb := C.1.2.1
  show W _ _ _ _ _ _ _ _ _ _ _ _ _ _ _ (F0 mm pc lc (.ref (gA Γ v.1 v.2) :: r.map (cv Γ)))
  refine lv_astore_n hx hb hd rfl hL.1 (by rw [← hL.2.1]; exact hlt) rfl (fun lc1 h1 => ?_)
  exact h p e R s mm args below meth c A cells slots Q C H locs lc1 hW hS (lok_sto hL hp (okh hV) h1) (okt hV)
theorem s_lstore_n {Γ : GG} {d k pc : Nat} {ls : LV} {m : MI} {n : ML} {post : PO} {x : Fin 4} {v : Int64} {r : List AV} (hd : decode (cN k) pc = .ok (.lstore_n x, 1)) (hlt : (x : Nat) + 1 < ls.length) (hp : prevL ls (x : Nat) = false) (h : AM Γ d k (pc + 1) ((ls.set (x : Nat) (some (vl v))).set ((x : Nat) + 1) none) r m n post) : AM Γ d k pc ls (vl v :: r) m n post := by
  intro p e R s mm args below meth c A cells slots Q C H locs lc hW hS hL hV
  have hx := C.1.1
  have hb := C.1.2.1
  show W _ _ _ _ _ _ _ _ _ _ _ _ _ _ _ (F0 mm pc lc (.long v :: r.map (cv Γ)))
  refine lv_lstore_n hx hb hd rfl hL.1 (by rw [← hL.2.1]; exact hlt) rfl (fun lc1 h1 => ?_)
  exact h p e R s mm args below meth c A cells slots Q C H locs lc1 hW hS (lok_sto2 hL hp h1) (okt hV)
theorem s_lstore {Γ : GG} {d k pc : Nat} {ls : LV} {m : MI} {n : ML} {post : PO} {x : Nat} {v : Int64} {r : List AV} (hd : decode (cN k) pc = .ok (.lstore x, 2)) (hlt : x + 1 < ls.length) (hp : prevL ls x = false) (h : AM Γ d k (pc + 2) ((ls.set x (some (vl v))).set (x + 1) none) r m n post) : AM Γ d k pc ls (vl v :: r) m n post := by
  intro p e R s mm args below meth c A cells slots Q C H locs lc hW hS hL hV
  have hx := C.1.1
  have hb := C.1.2.1
  show W _ _ _ _ _ _ _ _ _ _ _ _ _ _ _ (F0 mm pc lc (.long v :: r.map (cv Γ)))
  refine lv_lstore hx hb hd hL.1 (by rw [← hL.2.1]; exact hlt) rfl (fun lc1 h1 => ?_)
  exact h p e R s mm args below meth c A cells slots Q C H locs lc1 hW hS (lok_sto2 hL hp h1) (okt hV)
theorem s_iinc {Γ : GG} {d k pc : Nat} {ls : LV} {m : MI} {n : ML} {post : PO} {x : Nat} {q : Int} {v : Int} {r : List AV} (hd : decode (cN k) pc = .ok (.iinc x q, 3)) (hl : ls.getD x none = some (vi v)) (hlt : x < ls.length) (hp : prevL ls x = false) (h : AM Γ d k (pc + 3) (ls.set x (some (vi (v + q)))) r m n post) : AM Γ d k pc ls r m n post := by
  intro p e R s mm args below meth c A cells slots Q C H locs lc hW hS hL hV
  have hx := C.1.1
  have hb := C.1.2.1
  obtain ⟨kk, hkk⟩ := List.getElem?_of_mem ((mem_asc (Γ := Γ) ls 0 x (.int (Int32.ofInt v))).mpr ⟨vi v, Nat.zero_le _, by simpa using getD_some hl, rfl⟩)
  refine lv_iinc (v := Int32.ofInt (v + q)) hx hb hd hL.1 hkk (by rw [Int32.ofInt_add]) (by rw [← hL.2.1]; exact hlt) rfl (fun lc1 h1 => ?_)
  exact h p e R s mm args below meth c A cells slots Q C H locs lc1 hW hS (lok_sto (v := vi (v + q)) hL hp trivial h1) hV
theorem s_dupI {Γ : GG} {d k pc : Nat} {ls : LV} {m : MI} {n : ML} {post : PO} {v : Int} {r : List AV} (hd : decode (cN k) pc = .ok (.dup, 1)) (h : AM Γ d k (pc + 1) ls (vi v :: vi v :: r) m n post) : AM Γ d k pc ls (vi v :: r) m n post := by
  intro p e R s mm args below meth c A cells slots Q C H locs lc hW hS hL hV
  have hx := C.1.1
  have hb := C.1.2.1
  exact lv_dup (va := .int (Int32.ofInt v)) hx hb hd rfl (h p e R s mm args below meth c A cells slots Q C H locs lc hW hS hL (okc trivial hV))
theorem s_dupR {Γ : GG} {d k pc : Nat} {ls : LV} {m : MI} {n : ML} {post : PO} {a : Nat} {b : Int} {r : List AV} (hd : decode (cN k) pc = .ok (.dup, 1)) (h : AM Γ d k (pc + 1) ls (vr a b :: vr a b :: r) m n post) : AM Γ d k pc ls (vr a b :: r) m n post := by
  intro p e R s mm args below meth c A cells slots Q C H locs lc hW hS hL hV
  have hx := C.1.1
  have hb := C.1.2.1
  exact lv_dup (va := .ref (gA Γ a b)) hx hb hd rfl (h p e R s mm args below meth c A cells slots Q C H locs lc hW hS hL (okc (okh hV) hV))
theorem s_dup2 {Γ : GG} {d k pc : Nat} {ls : LV} {m : MI} {n : ML} {post : PO} {v : Int} {a : Nat} {b : Int} {r : List AV} (hd : decode (cN k) pc = .ok (.dup2, 1)) (h : AM Γ d k (pc + 1) ls (vi v :: vr a b :: vi v :: vr a b :: r) m n post) : AM Γ d k pc ls (vi v :: vr a b :: r) m n post := by
  intro p e R s mm args below meth c A cells slots Q C H locs lc hW hS hL hV
  have hx := C.1.1
  have hb := C.1.2.1
  exact lv_dup2_11 (va := .int (Int32.ofInt v)) (vb := .ref (gA Γ a b)) hx hb hd rfl rfl (h p e R s mm args below meth c A cells slots Q C H locs lc hW hS hL (okc trivial (okc (okh (okt hV)) hV)))
theorem s_iadd {Γ : GG} {d k pc : Nat} {ls : LV} {m : MI} {n : ML} {post : PO} {y : Int} {x : Int} {r : List AV} (hd : decode (cN k) pc = .ok (.iadd, 1))  (h : AM Γ d k (pc + 1) ls (vi (x + y) :: r) m n post) : AM Γ d k pc ls (vi y :: vi x :: r) m n post := by
  intro p e R s mm args below meth c A cells slots Q C H locs lc hW hS hL hV
  have hx := C.1.1
  have hb := C.1.2.1
  have g := h p e R s mm args below meth c A cells slots Q C H locs lc hW hS hL (okc trivial (okt (okt hV)))
  show W _ _ _ _ _ _ _ _ _ _ _ _ _ _ _ (F0 mm pc lc (.int (Int32.ofInt y) :: .int (Int32.ofInt x) :: r.map (cv Γ)))
  exact lv_iadd hx hb hd (by rw [← Int32.ofInt_add]; exact g)
theorem s_isub {Γ : GG} {d k pc : Nat} {ls : LV} {m : MI} {n : ML} {post : PO} {y : Int} {x : Int} {r : List AV} (hd : decode (cN k) pc = .ok (.isub, 1))  (h : AM Γ d k (pc + 1) ls (vi (x - y) :: r) m n post) : AM Γ d k pc ls (vi y :: vi x :: r) m n post := by
  intro p e R s mm args below meth c A cells slots Q C H locs lc hW hS hL hV
  have hx := C.1.1
  have hb := C.1.2.1
  have g := h p e R s mm args below meth c A cells slots Q C H locs lc hW hS hL (okc trivial (okt (okt hV)))
  show W _ _ _ _ _ _ _ _ _ _ _ _ _ _ _ (F0 mm pc lc (.int (Int32.ofInt y) :: .int (Int32.ofInt x) :: r.map (cv Γ)))
  exact lv_isub hx hb hd (by rw [← Int32.ofInt_sub]; exact g)
theorem s_imul {Γ : GG} {d k pc : Nat} {ls : LV} {m : MI} {n : ML} {post : PO} {y : Int} {x : Int} {r : List AV} (hd : decode (cN k) pc = .ok (.imul, 1))  (h : AM Γ d k (pc + 1) ls (vi (x * y) :: r) m n post) : AM Γ d k pc ls (vi y :: vi x :: r) m n post := by
  intro p e R s mm args below meth c A cells slots Q C H locs lc hW hS hL hV
  have hx := C.1.1
  have hb := C.1.2.1
  have g := h p e R s mm args below meth c A cells slots Q C H locs lc hW hS hL (okc trivial (okt (okt hV)))
  show W _ _ _ _ _ _ _ _ _ _ _ _ _ _ _ (F0 mm pc lc (.int (Int32.ofInt y) :: .int (Int32.ofInt x) :: r.map (cv Γ)))
  exact lv_imul hx hb hd (by rw [← Int32.ofInt_mul]; exact g)
theorem s_idiv {Γ : GG} {d k pc : Nat} {ls : LV} {m : MI} {n : ML} {post : PO} {y : Int} {x : Int} {r : List AV} (hd : decode (cN k) pc = .ok (.idiv, 1)) (hc : 0 ≤ x ∧ x ≤ 2147483647 ∧ 0 < y ∧ y ≤ 2147483647) (h : AM Γ d k (pc + 1) ls (vi (x / y) :: r) m n post) : AM Γ d k pc ls (vi y :: vi x :: r) m n post := by
  intro p e R s mm args below meth c A cells slots Q C H locs lc hW hS hL hV
  have hx := C.1.1
  have hb := C.1.2.1
  have g := h p e R s mm args below meth c A cells slots Q C H locs lc hW hS hL (okc trivial (okt (okt hV)))
  show W _ _ _ _ _ _ _ _ _ _ _ _ _ _ _ (F0 mm pc lc (.int (Int32.ofInt y) :: .int (Int32.ofInt x) :: r.map (cv Γ)))
  have e1 : Int32.ofInt x / Int32.ofInt y = Int32.ofInt (x / y) := by
    obtain ⟨h1, h2, h3, h4⟩ := hc
    have q0 : 0 ≤ x / y := Int.ediv_nonneg h1 (Int.le_of_lt h3)
    have q1 : x / y ≤ x := Int.ediv_le_self _ h1
    rw [← Int32.toInt_inj, Int32.toInt_div, toI ⟨by omega, by omega⟩, toI ⟨by omega, by omega⟩, Int.tdiv_eq_ediv_of_nonneg h1, toI ⟨by omega, by omega⟩]
    exact Int.bmod_eq_of_le (by omega) (by omega)
  exact lv_idiv hx hb hd (by rw [← ofI_0, ofI_eq ⟨by omega, by omega⟩ inr0]; omega) (by rw [e1]; exact g)
theorem s_irem {Γ : GG} {d k pc : Nat} {ls : LV} {m : MI} {n : ML} {post : PO} {y : Int} {x : Int} {r : List AV} (hd : decode (cN k) pc = .ok (.irem, 1)) (hc : 0 ≤ x ∧ x ≤ 2147483647 ∧ 0 < y ∧ y ≤ 2147483647) (h : AM Γ d k (pc + 1) ls (vi (x % y) :: r) m n post) : AM Γ d k pc ls (vi y :: vi x :: r) m n post := by
  intro p e R s mm args below meth c A cells slots Q C H locs lc hW hS hL hV
  have hx := C.1.1
  have hb := C.1.2.1
  have g := h p e R s mm args below meth c A cells slots Q C H locs lc hW hS hL (okc trivial (okt (okt hV)))
  show W _ _ _ _ _ _ _ _ _ _ _ _ _ _ _ (F0 mm pc lc (.int (Int32.ofInt y) :: .int (Int32.ofInt x) :: r.map (cv Γ)))
  have e1 : Int32.ofInt x / Int32.ofInt y = Int32.ofInt (x / y) := by
    obtain ⟨h1, h2, h3, h4⟩ := hc
    have q0 : 0 ≤ x / y := Int.ediv_nonneg h1 (Int.le_of_lt h3)
    have q1 : x / y ≤ x := Int.ediv_le_self _ h1
    rw [← Int32.toInt_inj, Int32.toInt_div, toI ⟨by omega, by omega⟩, toI ⟨by omega, by omega⟩, Int.tdiv_eq_ediv_of_nonneg h1, toI ⟨by omega, by omega⟩]
    exact Int.bmod_eq_of_le (by omega) (by omega)
  have e2 : Int32.ofInt x - Int32.ofInt x / Int32.ofInt y * Int32.ofInt y = Int32.ofInt (x % y) := by
    rw [e1, ← Int32.ofInt_mul, ← Int32.ofInt_sub]
    congr 1
    have := Int.mul_ediv_add_emod x y
    rw [Int.mul_comm] at this
    omega
  exact lv_irem hx hb hd (by rw [← ofI_0, ofI_eq ⟨by omega, by omega⟩ inr0]; omega) (by rw [e2]; exact g)
theorem s_iand {Γ : GG} {d k pc : Nat} {ls : LV} {m : MI} {n : ML} {post : PO} {y : Int} {x : Int} {r : List AV} (hd : decode (cN k) pc = .ok (.iand, 1))  (h : AM Γ d k (pc + 1) ls (vi (iop (· &&& ·) x y) :: r) m n post) : AM Γ d k pc ls (vi y :: vi x :: r) m n post := by
  intro p e R s mm args below meth c A cells slots Q C H locs lc hW hS hL hV
  have hx := C.1.1
  have hb := C.1.2.1
  have g := h p e R s mm args below meth c A cells slots Q C H locs lc hW hS hL (okc trivial (okt (okt hV)))
  show W _ _ _ _ _ _ _ _ _ _ _ _ _ _ _ (F0 mm pc lc (.int (Int32.ofInt y) :: .int (Int32.ofInt x) :: r.map (cv Γ)))
  exact lv_iand hx hb hd (by rw [← ofI_back (Int32.ofInt x &&& Int32.ofInt y)]; exact g)
theorem s_ixor {Γ : GG} {d k pc : Nat} {ls : LV} {m : MI} {n : ML} {post : PO} {y : Int} {x : Int} {r : List AV} (hd : decode (cN k) pc = .ok (.ixor, 1))  (h : AM Γ d k (pc + 1) ls (vi (iop (· ^^^ ·) x y) :: r) m n post) : AM Γ d k pc ls (vi y :: vi x :: r) m n post := by
  intro p e R s mm args below meth c A cells slots Q C H locs lc hW hS hL hV
  have hx := C.1.1
  have hb := C.1.2.1
  have g := h p e R s mm args below meth c A cells slots Q C H locs lc hW hS hL (okc trivial (okt (okt hV)))
  show W _ _ _ _ _ _ _ _ _ _ _ _ _ _ _ (F0 mm pc lc (.int (Int32.ofInt y) :: .int (Int32.ofInt x) :: r.map (cv Γ)))
  exact lv_ixor hx hb hd (by rw [← ofI_back (Int32.ofInt x ^^^ Int32.ofInt y)]; exact g)
theorem s_iushr {Γ : GG} {d k pc : Nat} {ls : LV} {m : MI} {n : ML} {post : PO} {y : Int} {x : Int} {r : List AV} (hd : decode (cN k) pc = .ok (.iushr, 1))  (h : AM Γ d k (pc + 1) ls (vi (iop (fun a b => (a.toUInt32 >>> (b.toUInt32 &&& Int32.toUInt32 31)).toInt32) x y) :: r) m n post) : AM Γ d k pc ls (vi y :: vi x :: r) m n post := by
  intro p e R s mm args below meth c A cells slots Q C H locs lc hW hS hL hV
  have hx := C.1.1
  have hb := C.1.2.1
  have g := h p e R s mm args below meth c A cells slots Q C H locs lc hW hS hL (okc trivial (okt (okt hV)))
  show W _ _ _ _ _ _ _ _ _ _ _ _ _ _ _ (F0 mm pc lc (.int (Int32.ofInt y) :: .int (Int32.ofInt x) :: r.map (cv Γ)))
  exact lv_iushr hx hb hd (by rw [← ofI_back ((Int32.ofInt x).toUInt32 >>> ((Int32.ofInt y).toUInt32 &&& Int32.toUInt32 31)).toInt32]; rfl) g
theorem s_ishr {Γ : GG} {d k pc : Nat} {ls : LV} {m : MI} {n : ML} {post : PO} {y : Int} {x : Int} {r : List AV} (hd : decode (cN k) pc = .ok (.ishr, 1))  (h : AM Γ d k (pc + 1) ls (vi (iop (fun a b => a >>> (b &&& 31)) x y) :: r) m n post) : AM Γ d k pc ls (vi y :: vi x :: r) m n post := by
  intro p e R s mm args below meth c A cells slots Q C H locs lc hW hS hL hV
  have hx := C.1.1
  have hb := C.1.2.1
  have g := h p e R s mm args below meth c A cells slots Q C H locs lc hW hS hL (okc trivial (okt (okt hV)))
  show W _ _ _ _ _ _ _ _ _ _ _ _ _ _ _ (F0 mm pc lc (.int (Int32.ofInt y) :: .int (Int32.ofInt x) :: r.map (cv Γ)))
  exact lv_ishr hx hb hd (by rw [← ofI_back (Int32.ofInt x >>> (Int32.ofInt y &&& 31))]; exact g)
theorem s_ladd {Γ : GG} {d k pc : Nat} {ls : LV} {m : MI} {n : ML} {post : PO} {y : Int64} {x : Int64} {r : List AV} (hd : decode (cN k) pc = .ok (.ladd, 1))  (h : AM Γ d k (pc + 1) ls (vl (x + y) :: r) m n post) : AM Γ d k pc ls (vl y :: vl x :: r) m n post := by
  intro p e R s mm args below meth c A cells slots Q C H locs lc hW hS hL hV
  have hx := C.1.1
  have hb := C.1.2.1
  have g := h p e R s mm args below meth c A cells slots Q C H locs lc hW hS hL (okc trivial (okt (okt hV)))
  show W _ _ _ _ _ _ _ _ _ _ _ _ _ _ _ (F0 mm pc lc (.long y :: .long x :: r.map (cv Γ)))
  exact lv_ladd hx hb hd g
theorem s_lmul {Γ : GG} {d k pc : Nat} {ls : LV} {m : MI} {n : ML} {post : PO} {y : Int64} {x : Int64} {r : List AV} (hd : decode (cN k) pc = .ok (.lmul, 1))  (h : AM Γ d k (pc + 1) ls (vl (x * y) :: r) m n post) : AM Γ d k pc ls (vl y :: vl x :: r) m n post := by
  intro p e R s mm args below meth c A cells slots Q C H locs lc hW hS hL hV
  have hx := C.1.1
  have hb := C.1.2.1
  have g := h p e R s mm args below meth c A cells slots Q C H locs lc hW hS hL (okc trivial (okt (okt hV)))
  show W _ _ _ _ _ _ _ _ _ _ _ _ _ _ _ (F0 mm pc lc (.long y :: .long x :: r.map (cv Γ)))
  exact lv_lmul hx hb hd g
theorem s_i2l {Γ : GG} {d k pc : Nat} {ls : LV} {m : MI} {n : ML} {post : PO} {x : Int} {r : List AV} (hd : decode (cN k) pc = .ok (.i2l, 1))  (h : AM Γ d k (pc + 1) ls (vl (Int32.ofInt x).toInt64 :: r) m n post) : AM Γ d k pc ls (vi x :: r) m n post := by
  intro p e R s mm args below meth c A cells slots Q C H locs lc hW hS hL hV
  have hx := C.1.1
  have hb := C.1.2.1
  have g := h p e R s mm args below meth c A cells slots Q C H locs lc hW hS hL (okc trivial (okt hV))
  show W _ _ _ _ _ _ _ _ _ _ _ _ _ _ _ (F0 mm pc lc (.int (Int32.ofInt x) :: r.map (cv Γ)))
  exact lv_i2l hx hb hd rfl g
theorem s_i2b {Γ : GG} {d k pc : Nat} {ls : LV} {m : MI} {n : ML} {post : PO} {x : Int} {r : List AV} (hd : decode (cN k) pc = .ok (.i2b, 1))  (h : AM Γ d k (pc + 1) ls (vi (Int32.ofInt x).toInt8.toInt :: r) m n post) : AM Γ d k pc ls (vi x :: r) m n post := by
  intro p e R s mm args below meth c A cells slots Q C H locs lc hW hS hL hV
  have hx := C.1.1
  have hb := C.1.2.1
  have g := h p e R s mm args below meth c A cells slots Q C H locs lc hW hS hL (okc trivial (okt hV))
  show W _ _ _ _ _ _ _ _ _ _ _ _ _ _ _ (F0 mm pc lc (.int (Int32.ofInt x) :: r.map (cv Γ)))
  exact lv_i2b hx hb hd (by rw [Int32.ofInt_int8ToInt]) g
theorem s_l2i {Γ : GG} {d k pc : Nat} {ls : LV} {m : MI} {n : ML} {post : PO} {x : Int64} {r : List AV} (hd : decode (cN k) pc = .ok (.l2i, 1))  (h : AM Γ d k (pc + 1) ls (vi x.toInt32.toInt :: r) m n post) : AM Γ d k pc ls (vl x :: r) m n post := by
  intro p e R s mm args below meth c A cells slots Q C H locs lc hW hS hL hV
  have hx := C.1.1
  have hb := C.1.2.1
  have g := h p e R s mm args below meth c A cells slots Q C H locs lc hW hS hL (okc trivial (okt hV))
  show W _ _ _ _ _ _ _ _ _ _ _ _ _ _ _ (F0 mm pc lc (.long x :: r.map (cv Γ)))
  exact lv_l2i hx hb hd (by rw [ofI_back]) g
theorem s_lsub {Γ : GG} {d k pc : Nat} {ls : LV} {m : MI} {n : ML} {post : PO} {y : Int64} {x : Int64} {r : List AV} (hd : decode (cN k) pc = .ok (.lsub, 1))  (h : AM Γ d k (pc + 1) ls (vl (x - y) :: r) m n post) : AM Γ d k pc ls (vl y :: vl x :: r) m n post := by
  intro p e R s mm args below meth c A cells slots Q C H locs lc hW hS hL hV
  have hx := C.1.1
  have hb := C.1.2.1
  have g := h p e R s mm args below meth c A cells slots Q C H locs lc hW hS hL (okc trivial (okt (okt hV)))
  show W _ _ _ _ _ _ _ _ _ _ _ _ _ _ _ (F0 mm pc lc (.long y :: .long x :: r.map (cv Γ)))
  exact lv_lsub hx hb hd g
theorem s_land {Γ : GG} {d k pc : Nat} {ls : LV} {m : MI} {n : ML} {post : PO} {y : Int64} {x : Int64} {r : List AV} (hd : decode (cN k) pc = .ok (.land, 1))  (h : AM Γ d k (pc + 1) ls (vl (x &&& y) :: r) m n post) : AM Γ d k pc ls (vl y :: vl x :: r) m n post := by
  intro p e R s mm args below meth c A cells slots Q C H locs lc hW hS hL hV
  have hx := C.1.1
  have hb := C.1.2.1
  have g := h p e R s mm args below meth c A cells slots Q C H locs lc hW hS hL (okc trivial (okt (okt hV)))
  show W _ _ _ _ _ _ _ _ _ _ _ _ _ _ _ (F0 mm pc lc (.long y :: .long x :: r.map (cv Γ)))
  exact lv_land hx hb hd g
theorem s_lor {Γ : GG} {d k pc : Nat} {ls : LV} {m : MI} {n : ML} {post : PO} {y : Int64} {x : Int64} {r : List AV} (hd : decode (cN k) pc = .ok (.lor, 1))  (h : AM Γ d k (pc + 1) ls (vl (x ||| y) :: r) m n post) : AM Γ d k pc ls (vl y :: vl x :: r) m n post := by
  intro p e R s mm args below meth c A cells slots Q C H locs lc hW hS hL hV
  have hx := C.1.1
  have hb := C.1.2.1
  have g := h p e R s mm args below meth c A cells slots Q C H locs lc hW hS hL (okc trivial (okt (okt hV)))
  show W _ _ _ _ _ _ _ _ _ _ _ _ _ _ _ (F0 mm pc lc (.long y :: .long x :: r.map (cv Γ)))
  exact lv_lor hx hb hd g
theorem s_lxor {Γ : GG} {d k pc : Nat} {ls : LV} {m : MI} {n : ML} {post : PO} {y : Int64} {x : Int64} {r : List AV} (hd : decode (cN k) pc = .ok (.lxor, 1))  (h : AM Γ d k (pc + 1) ls (vl (x ^^^ y) :: r) m n post) : AM Γ d k pc ls (vl y :: vl x :: r) m n post := by
  intro p e R s mm args below meth c A cells slots Q C H locs lc hW hS hL hV
  have hx := C.1.1
  have hb := C.1.2.1
  have g := h p e R s mm args below meth c A cells slots Q C H locs lc hW hS hL (okc trivial (okt (okt hV)))
  show W _ _ _ _ _ _ _ _ _ _ _ _ _ _ _ (F0 mm pc lc (.long y :: .long x :: r.map (cv Γ)))
  exact lv_lxor hx hb hd g
theorem s_lshl {Γ : GG} {d k pc : Nat} {ls : LV} {m : MI} {n : ML} {post : PO} {y : Int} {x : Int64} {r : List AV} (hd : decode (cN k) pc = .ok (.lshl, 1))  (h : AM Γ d k (pc + 1) ls (vl (lshlA x y) :: r) m n post) : AM Γ d k pc ls (vi y :: vl x :: r) m n post := by
  intro p e R s mm args below meth c A cells slots Q C H locs lc hW hS hL hV
  have hx := C.1.1
  have hb := C.1.2.1
  have g := h p e R s mm args below meth c A cells slots Q C H locs lc hW hS hL (okc trivial (okt (okt hV)))
  show W _ _ _ _ _ _ _ _ _ _ _ _ _ _ _ (F0 mm pc lc (.int (Int32.ofInt y) :: .long x :: r.map (cv Γ)))
  exact lv_lshl hx hb hd rfl g
theorem s_lushr {Γ : GG} {d k pc : Nat} {ls : LV} {m : MI} {n : ML} {post : PO} {y : Int} {x : Int64} {r : List AV} (hd : decode (cN k) pc = .ok (.lushr, 1))  (h : AM Γ d k (pc + 1) ls (vl (lushrA x y) :: r) m n post) : AM Γ d k pc ls (vi y :: vl x :: r) m n post := by
  intro p e R s mm args below meth c A cells slots Q C H locs lc hW hS hL hV
  have hx := C.1.1
  have hb := C.1.2.1
  have g := h p e R s mm args below meth c A cells slots Q C H locs lc hW hS hL (okc trivial (okt (okt hV)))
  show W _ _ _ _ _ _ _ _ _ _ _ _ _ _ _ (F0 mm pc lc (.int (Int32.ofInt y) :: .long x :: r.map (cv Γ)))
  exact lv_lushr hx hb hd rfl g
theorem s_lcmp {Γ : GG} {d k pc : Nat} {ls : LV} {m : MI} {n : ML} {post : PO} {y : Int64} {x : Int64} {r : List AV} (hd : decode (cN k) pc = .ok (.lcmp, 1))  (h : AM Γ d k (pc + 1) ls (vi (lg_cmp x y).toInt :: r) m n post) : AM Γ d k pc ls (vl y :: vl x :: r) m n post := by
  intro p e R s mm args below meth c A cells slots Q C H locs lc hW hS hL hV
  have hx := C.1.1
  have hb := C.1.2.1
  have g := h p e R s mm args below meth c A cells slots Q C H locs lc hW hS hL (okc trivial (okt (okt hV)))
  show W _ _ _ _ _ _ _ _ _ _ _ _ _ _ _ (F0 mm pc lc (.long y :: .long x :: r.map (cv Γ)))
  exact W.lcmp hx hb hd (by rw [← ofI_back (lg_cmp x y)]; exact g)
theorem cmp_0 {x : Int} (hx : InR x) (c : ClassFile.Cond) : (match c with | .eq => Int32.ofInt x = 0 | .ne => ¬ Int32.ofInt x = 0 | .lt => Int32.ofInt x < 0 | .ge => ¬ Int32.ofInt x < 0 | .gt => 0 < Int32.ofInt x | .le => ¬ 0 < Int32.ofInt x) ↔ cmpP c x 0 := by
  cases c <;> simp only [cmpP] <;> rw [← ofI_0] <;> first | rw [ofI_eq hx inr0] | rw [ofI_lt hx inr0] | rw [ofI_lt inr0 hx]
theorem s_goto {Γ : GG} {d k pc : Nat} {ls : LV} {m : MI} {n : ML} {post : PO} {o : Int} {t : Nat} {r : List AV} (hd : decode (cN k) pc = .ok (.goto o, 3)) (ht : (pc : Int) + o = (t : Int)) (h : AM Γ d k t ls r m n post) : AM Γ d k pc ls r m n post := by
  intro p e R s mm args below meth c A cells slots Q C H locs lc hW hS hL hV
  have hx := C.1.1
  have hb := C.1.2.1
  exact lv_goto hx hb hd ht (h p e R s mm args below meth c A cells slots Q C H locs lc hW hS hL hV)
theorem s_if {Γ : GG} {d k pc : Nat} {ls : LV} {m : MI} {n : ML} {post : PO} {cc : ClassFile.Cond} {o : Int} {t : Nat} {x : Int} {r : List AV} (hd : decode (cN k) pc = .ok (.ifCond cc o, 3)) (ht : (pc : Int) + o = (t : Int)) (hR : InR x) (h1 : cmpP cc x 0 → AM Γ d k t ls r m n post) (h2 : ¬ cmpP cc x 0 → AM Γ d k (pc + 3) ls r m n post) : AM Γ d k pc ls (vi x :: r) m n post := by
  intro p e R s mm args below meth c A cells slots Q C H locs lc hW hS hL hV
  have hx := C.1.1
  have hb := C.1.2.1
  have g1 : cmpP cc x 0 → _ := fun q => h1 q p e R s mm args below meth c A cells slots Q C H locs lc hW hS hL (okt hV)
  have g2 : ¬ cmpP cc x 0 → _ := fun q => h2 q p e R s mm args below meth c A cells slots Q C H locs lc hW hS hL (okt hV)
  show W _ _ _ _ _ _ _ _ _ _ _ _ _ _ _ (F0 mm pc lc (.int (Int32.ofInt x) :: r.map (cv Γ)))
  have a1 : (Int32.ofInt x = 0 ↔ x = 0) := by rw [← ofI_0, ofI_eq hR inr0]
  have a2 : (Int32.ofInt x < 0 ↔ x < 0) := by rw [← ofI_0, ofI_lt hR inr0]
  have a3 : (0 < Int32.ofInt x ↔ 0 < x) := by rw [← ofI_0, ofI_lt inr0 hR]
  have a4 : (Int32.ofInt x ≤ 0 ↔ x ≤ 0) := by rw [← ofI_0, ofI_le hR inr0]
  have a5 : (0 ≤ Int32.ofInt x ↔ 0 ≤ x) := by rw [← ofI_0, ofI_le inr0 hR]
  cases cc <;> simp only [cmpP] at g1 g2
  · exact lv_if_eq hx hb hd ht (fun q => g1 (a1.mp q)) (fun q => g2 (fun z => q (a1.mpr z)))
  · exact lv_if_ne hx hb hd ht (fun q => g1 (fun z => q (a1.mpr z))) (fun q => g2 (fun z => z (a1.mp q)))
  · exact lv_if_lt hx hb hd ht (fun q => g1 (a2.mp q)) (fun q => g2 (fun z => q (a2.mpr z)))
  · refine lv_if_ge hx hb hd ht (fun q => g1 ?_) (fun q => g2 ?_) <;> simp only [Int32.not_lt, Int32.not_le, ge_iff_le, gt_iff_lt, a1, a2, a3, a4, a5] at q <;> omega
  · refine lv_if_gt hx hb hd ht (fun q => g1 ?_) (fun q => g2 ?_) <;> simp only [Int32.not_lt, Int32.not_le, ge_iff_le, gt_iff_lt, a1, a2, a3, a4, a5] at q <;> omega
  · refine lv_if_le hx hb hd ht (fun q => g1 ?_) (fun q => g2 ?_) <;> simp only [Int32.not_lt, Int32.not_le, ge_iff_le, gt_iff_lt, a1, a2, a3, a4, a5] at q <;> omega
theorem s_icmp {Γ : GG} {d k pc : Nat} {ls : LV} {m : MI} {n : ML} {post : PO} {cc : ClassFile.Cond} {o : Int} {t : Nat} {x y : Int} {r : List AV} (hd : decode (cN k) pc = .ok (.if_icmp cc o, 3)) (ht : (pc : Int) + o = (t : Int)) (hR : InR x) (hY : InR y) (h1 : cmpP cc x y → AM Γ d k t ls r m n post) (h2 : ¬ cmpP cc x y → AM Γ d k (pc + 3) ls r m n post) : AM Γ d k pc ls (vi y :: vi x :: r) m n post := by
  intro p e R s mm args below meth c A cells slots Q C H locs lc hW hS hL hV
  have hx := C.1.1
  have hb := C.1.2.1
  have g1 : cmpP cc x y → _ := fun q => h1 q p e R s mm args below meth c A cells slots Q C H locs lc hW hS hL (okt (okt hV))
  have g2 : ¬ cmpP cc x y → _ := fun q => h2 q p e R s mm args below meth c A cells slots Q C H locs lc hW hS hL (okt (okt hV))
  show W _ _ _ _ _ _ _ _ _ _ _ _ _ _ _ (F0 mm pc lc (.int (Int32.ofInt y) :: .int (Int32.ofInt x) :: r.map (cv Γ)))
  have a1 := ofI_eq hR hY
  have a2 := ofI_lt hR hY
  have a3 := ofI_lt hY hR
  have a4 := ofI_le hR hY
  have a5 := ofI_le hY hR
  cases cc <;> simp only [cmpP] at g1 g2
  · exact lv_icmp_eq hx hb hd ht (fun q => g1 (a1.mp q)) (fun q => g2 (fun z => q (a1.mpr z)))
  · exact lv_icmp_ne hx hb hd ht (fun q => g1 (fun z => q (a1.mpr z))) (fun q => g2 (fun z => z (a1.mp q)))
  · exact lv_icmp_lt hx hb hd ht (fun q => g1 (a2.mp q)) (fun q => g2 (fun z => q (a2.mpr z)))
  · refine lv_icmp_ge hx hb hd ht (fun q => g1 ?_) (fun q => g2 ?_) <;> simp only [Int32.not_lt, Int32.not_le, ge_iff_le, gt_iff_lt, a1, a2, a3, a4, a5] at q <;> omega
  · refine lv_icmp_gt hx hb hd ht (fun q => g1 ?_) (fun q => g2 ?_) <;> simp only [Int32.not_lt, Int32.not_le, ge_iff_le, gt_iff_lt, a1, a2, a3, a4, a5] at q <;> omega
  · refine lv_icmp_le hx hb hd ht (fun q => g1 ?_) (fun q => g2 ?_) <;> simp only [Int32.not_lt, Int32.not_le, ge_iff_le, gt_iff_lt, a1, a2, a3, a4, a5] at q <;> omega
