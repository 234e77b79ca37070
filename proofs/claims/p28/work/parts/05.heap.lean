theorem vd_of {k kd : Nat} {pp : Int} (h : okr k (vr kd pp)) (h0 : kd ≠ 0) : vd kd pp := by
  rcases h with h | ⟨-, h, -⟩
  · exact h
  · exact absurd h h0
theorem kd_obj {kd : Nat} (h : akind kd = 7) : kd = 1 ∨ kd = 3 ∨ kd = 10 ∨ kd = 19 ∨ kd = 21 ∨ kd = 22 := by
  unfold akind at h
  split at h <;> first | omega | cases h
theorem cnt_obj {Γ : GG} {m : MI} {n : ML} {kd : Nat} {pp : Int} (h : akind kd = 7) : cnt Γ m n kd pp = .inr (cIx kd, (flds kd pp m n).map (cv Γ)) := by
  unfold cnt
  rw [if_pos h]
theorem cnt_int {Γ : GG} {m : MI} {n : ML} {kd : Nat} {pp : Int} {t : Nat} (h : akind kd = t) (ht : t = 1 ∨ t = 2 ∨ t = 3) : cnt Γ m n kd pp = .inl (gC Γ t, (alen kd).toNat, .inl (fun j => Int32.ofInt (m kd pp (j : Int)))) := by
  subst h
  unfold cnt
  rw [if_neg (by omega), if_neg (by omega), if_neg (by omega)]
theorem cnt_lng {Γ : GG} {m : MI} {n : ML} {kd : Nat} {pp : Int} (h : akind kd = 4) : cnt Γ m n kd pp = .inl (gC Γ 4, (alen kd).toNat, .inr (.inl (fun j => n kd (j : Int)))) := by
  unfold cnt
  rw [if_neg (by omega), if_pos h]
theorem cnt_ref {Γ : GG} {m : MI} {n : ML} {kd : Nat} {pp : Int} (h : akind kd = 5) : cnt Γ m n kd pp = .inl (gC Γ 5, (alen kd).toNat, .inr (.inr (.inr (.inr (fun j => some (gA Γ 3 (m kd pp (j : Int)))))))) := by
  unfold cnt
  rw [if_neg (by omega), if_neg (by omega), if_pos h]
/-- what the tables say of an object's kind -/
theorem cls_fact {kd : Nat} (h7 : akind kd = 7) : ∃ (C : String) (T : u_T) (N : Nat) (ty : Nat → FieldType), vwCl[cIx kd]? = some (C, T, N) ∧ (∀ w ∈ u_ws C T N, w ∈ WS) ∧ tX (cIx kd) = T ∧ C = oN (cIx kd) ∧ (∀ pp m n, (flds kd pp m n).length = N) ∧
    (∀ j, j < N → parseFieldDescriptor (T j).2.2.1 = some (ty j)) ∧ (∀ a, a < N → ∀ b, b < N → a ≠ b → (T a).2.1 ≠ (T b).2.1) ∧ (∀ b, fint kd b = true → b < N ∧ (T b).2.2.2 = false ∧ parseFieldDescriptor (T b).2.2.1 = some .int) := by
  have fi : ∀ b, fint kd b = true → b < 8 := by
    intro b hb
    unfold fint at hb
    split at hb <;> first | omega | cases hb
  rcases kd_obj h7 with rfl | rfl | rfl | rfl | rfl | rfl
  · refine ⟨RX5, TX5, 7, tyX5, rfl, wl_X5, rfl, rfl, fun _ _ _ => rfl, tyX5_ok, nmX5, fun b hb => ?_⟩
    have := fi b hb
    revert hb
    match b, this with
    | 0, _ => decide +kernel
    | 1, _ => decide +kernel
    | 2, _ => decide +kernel
    | 3, _ => decide +kernel
    | 4, _ => decide +kernel
    | 5, _ => decide +kernel
    | 6, _ => decide +kernel
    | 7, _ => decide +kernel
  · refine ⟨RX2, TX2, 11, tyX2, rfl, wl_X2, rfl, rfl, fun _ _ _ => rfl, tyX2_ok, nmX2, fun b hb => ?_⟩
    have := fi b hb
    revert hb
    match b, this with
    | 0, _ => decide +kernel
    | 1, _ => decide +kernel
    | 2, _ => decide +kernel
    | 3, _ => decide +kernel
    | 4, _ => decide +kernel
    | 5, _ => decide +kernel
    | 6, _ => decide +kernel
    | 7, _ => decide +kernel
  · refine ⟨RX0, TX0, 12, tyX0, rfl, wl_X0, rfl, rfl, fun _ _ _ => rfl, tyX0_ok, nmX0, fun b hb => ?_⟩
    have := fi b hb
    revert hb
    match b, this with
    | 0, _ => decide +kernel
    | 1, _ => decide +kernel
    | 2, _ => decide +kernel
    | 3, _ => decide +kernel
    | 4, _ => decide +kernel
    | 5, _ => decide +kernel
    | 6, _ => decide +kernel
    | 7, _ => decide +kernel
  · refine ⟨RX4, TX4, 4, tyX4, rfl, wl_X4, rfl, rfl, fun _ _ _ => rfl, tyX4_ok, nmX4, fun b hb => ?_⟩
    have := fi b hb
    revert hb
    match b, this with
    | 0, _ => decide +kernel
    | 1, _ => decide +kernel
    | 2, _ => decide +kernel
    | 3, _ => decide +kernel
    | 4, _ => decide +kernel
    | 5, _ => decide +kernel
    | 6, _ => decide +kernel
    | 7, _ => decide +kernel
  · refine ⟨RX1, TX1, 2, tyX1, rfl, wl_X1, rfl, rfl, fun _ _ _ => rfl, tyX1_ok, nmX1, fun b hb => ?_⟩
    have := fi b hb
    revert hb
    match b, this with
    | 0, _ => decide +kernel
    | 1, _ => decide +kernel
    | 2, _ => decide +kernel
    | 3, _ => decide +kernel
    | 4, _ => decide +kernel
    | 5, _ => decide +kernel
    | 6, _ => decide +kernel
    | 7, _ => decide +kernel
  · refine ⟨RX3, TX3, 4, tyX3, rfl, wl_X3, rfl, rfl, fun _ _ _ => rfl, tyX3_ok, nmX3, fun b hb => ?_⟩
    have := fi b hb
    revert hb
    match b, this with
    | 0, _ => decide +kernel
    | 1, _ => decide +kernel
    | 2, _ => decide +kernel
    | 3, _ => decide +kernel
    | 4, _ => decide +kernel
    | 5, _ => decide +kernel
    | 6, _ => decide +kernel
    | 7, _ => decide +kernel
/-- the fields' own addresses are of the world -/
theorem flds_ok {k kd : Nat} {pp : Int} {m : MI} {n : ML} {b : Nat} {v : AV} (hv : (flds kd pp m n)[b]? = some v) (h : vd kd pp) : okr k v := by
  have hm := List.mem_of_getElem? hv
  obtain ⟨h1, h2, h3⟩ := h
  unfold flds at hm
  split at hm <;> simp only [List.mem_cons, List.not_mem_nil, or_false] at hm <;> (try simp only [nK] at h3) <;>
    (rcases hm with rfl | rfl | rfl | rfl | rfl | rfl | rfl | rfl | rfl | rfl | rfl | rfl <;> first | exact trivial | exact Or.inl ⟨by omega, by omega, by simp only [nK]; omega⟩) <;> done
theorem s_getfield {Γ : GG} {d k pc : Nat} {ls : LV} {m : MI} {n : ML} {post : PO} {x ci b kd : Nat} {pp : Int} {v : AV} {r : List AV} (hd : decode (cN k) pc = .ok (.getfield x, 3)) (hl : (oI k, x, ci, b) ∈ LF) (hc : cIx kd = ci) (h7 : akind kd = 7) (hv : (flds kd pp m n)[b]? = some v) (h : AM Γ d k (pc + 3) ls (v :: r) m n post) : AM Γ d k pc ls (vr kd pp :: r) m n post := by
  intro p e R s mm args below meth c A cells slots Q C H locs lc hW hS hL hV
  have hx := C.1.1
  have hb := C.1.2.1
  have hown := C.1.2.2.2.1
  have hts := C.1.2.2.2.2.1
  have hAA := C.1.2.2.2.2.2.2.2.2.2.2.1
  have hG := C.1.2.2.2.2.2.2.2.2.2.2.2.1
  subst hc
  have hvd := vd_of (okh hV) (by rintro rfl; cases h7)
  obtain ⟨CC, T, N, ty, f1, f2, f3, f4, f5, f6, f7, f8⟩ := cls_fact h7
  obtain ⟨i, hi⟩ := wl_at hvd
  have he := wls_get (Γ := Γ) (m := m) (n := n) hi
  rw [cnt_obj h7] at he
  have hb1 : b < N := by
    rw [← f5 pp m n]
    exact (List.getElem?_eq_some_iff.mp hv).1
  have hlk := LF_ok _ hl
  unfold okF at hlk
  dsimp only at hlk
  rw [f3] at hlk
  refine va_get hx hb hts f2 hown hW.2.1 hW.1 i he f1 b hb1 (hts _ hlk) (fun _ h => h) (v := cv Γ v) (by rw [List.getElem?_map, hv]; rfl) hd ?_
  exact h p e R s mm args below meth c A cells slots Q C H locs lc hW hS hL (okc (flds_ok hv hvd) (okt hV))
theorem flds_up {kd b : Nat} {pp v : Int} {m : MI} {n : ML} {Γ : GG} (hf : fint kd b = true) : (flds kd pp (up m kd pp (b : Int) v) n).map (cv Γ) = ((flds kd pp m n).map (cv Γ)).set b (.int (Int32.ofInt v)) := by
  unfold fint at hf
  split at hf <;> first | (simp [flds, up, cv]; done) | cases hf
theorem s_putI {Γ : GG} {d k pc : Nat} {ls : LV} {m : MI} {n : ML} {post : PO} {x ci b kd : Nat} {pp v : Int} {r : List AV} (hd : decode (cN k) pc = .ok (.putfield x, 3)) (hl : (oI k, x, ci, b) ∈ LF) (hc : cIx kd = ci) (hf : fint kd b = true) (h : AM Γ d k (pc + 3) ls r (up m kd pp (b : Int) v) n post) : AM Γ d k pc ls (vi v :: vr kd pp :: r) m n post := by
  intro p e R s mm args below meth c A cells slots Q C H locs lc hW hS hL hV
  have hx := C.1.1
  have hb := C.1.2.1
  have hown := C.1.2.2.2.1
  have hts := C.1.2.2.2.2.1
  have hAA := C.1.2.2.2.2.2.2.2.2.2.2.1
  have hG := C.1.2.2.2.2.2.2.2.2.2.2.2.1
  subst hc
  have h7 : akind kd = 7 := by
    unfold fint at hf
    split at hf <;> first | rfl | cases hf
  have h0 : kd ≠ 0 := by rintro rfl; cases h7
  have hvd := vd_of (okh (okt hV)) h0
  obtain ⟨CC, T, N, ty, f1, f2, f3, f4, f5, f6, f7, f8⟩ := cls_fact h7
  obtain ⟨i, hi⟩ := wl_at hvd
  have he := wls_get (Γ := Γ) (m := m) (n := n) hi
  rw [cnt_obj h7] at he
  obtain ⟨hb1, hb2, hb3⟩ := f8 b hf
  have hlk := LF_ok _ hl
  unfold okF at hlk
  dsimp only at hlk
  rw [f3] at hlk
  refine va_put (v := .int (Int32.ofInt v)) hx hb hts f2 ty f6 f7 hown hW.2.1 hW.1 (wls_D hG hAA) hS i he f1 b hb1 (hts _ hlk) (fun _ h => h) hb2 hb3 rfl rfl (by rw [List.length_map, f5]; exact hb1) hd (fun H1 locs1 hP1 _ hS1 => ?_)
  rw [wls_set hi (by rw [cnt_obj h7, flds_up hf]) (fun k' p' hne _ => cnt_congr (up_ne hne) rfl)] at hP1
  exact h p e R s mm args below meth c A cells slots Q C H1 locs1 lc (wd_up hW hP1 h0 (by rw [h7]; intro q; cases q) (by rintro rfl; cases h7)) hS1 hL (okt (okt hV))
theorem s_putL {Γ : GG} {d k pc : Nat} {ls : LV} {m : MI} {n : ML} {post : PO} {x : Nat} {v : Int64} {r : List AV} (hd : decode (cN k) pc = .ok (.putfield x, 3)) (hl : (oI k, x, 3, 2) ∈ LF) (h : AM Γ d k (pc + 3) ls r m (ul n 22 2 v) post) : AM Γ d k pc ls (vl v :: vr 22 0 :: r) m n post := by
  intro p e R s mm args below meth c A cells slots Q C H locs lc hW hS hL hV
  have hx := C.1.1
  have hb := C.1.2.1
  have hown := C.1.2.2.2.1
  have hts := C.1.2.2.2.2.1
  have hAA := C.1.2.2.2.2.2.2.2.2.2.2.1
  have hG := C.1.2.2.2.2.2.2.2.2.2.2.2.1
  have hvd : vd 22 0 := ⟨by omega, by omega, by simp only [nK]; omega⟩
  obtain ⟨i, hi⟩ := wl_at hvd
  have he := wls_get (Γ := Γ) (m := m) (n := n) hi
  rw [cnt_obj rfl] at he
  have hlk := LF_ok _ hl
  refine va_put (C := RX3) (T := TX3) (N := 4) (ty := .long) (v := .long v) hx hb hts wl_X3 tyX3 tyX3_ok nmX3 hown hW.2.1 hW.1 (wls_D hG hAA) hS i he rfl 2 (by omega) (hts _ hlk) (fun _ h => h) (by decide +kernel) (by decide +kernel) rfl rfl (by rw [List.length_map]; simp [flds]) hd (fun H1 locs1 hP1 _ hS1 => ?_)
  rw [wls_set (m' := m) (n' := ul n 22 2 v) hi (by rw [cnt_obj rfl]; simp [flds, ul, cv]) (fun k' p' hne hv' => by
    by_cases h22 : k' = 22
    · subst h22
      obtain ⟨-, q1, q2⟩ := hv'
      simp only [nK] at q2
      exact absurd ⟨rfl, by omega⟩ hne
    · exact cnt_congr rfl (ul_ne h22))] at hP1
  exact h p e R s mm args below meth c A cells slots Q C H1 locs1 lc ⟨hP1, hW.2⟩ hS1 hL (okt (okt hV))
theorem s_iaload {Γ : GG} {d k pc : Nat} {ls : LV} {m : MI} {n : ML} {post : PO} {kd : Nat} {pp j : Int} {r : List AV} (hd : decode (cN k) pc = .ok (.iaload, 1)) (hk : akind kd = 1) (hj : 0 ≤ j ∧ j < alen kd) (h : AM Γ d k (pc + 1) ls (vi (m kd pp j) :: r) m n post) : AM Γ d k pc ls (vi j :: vr kd pp :: r) m n post := by
  intro p e R s mm args below meth c A cells slots Q C H locs lc hW hS hL hV
  have hx := C.1.1
  have hb := C.1.2.1
  have hown := C.1.2.2.2.1
  have hts := C.1.2.2.2.2.1
  have hAA := C.1.2.2.2.2.2.2.2.2.2.2.1
  have hG := C.1.2.2.2.2.2.2.2.2.2.2.2.1
  have hvd := vd_of (okh (okt hV)) (by rintro rfl; cases hk)
  obtain ⟨i, hi⟩ := wl_at hvd
  have he := wls_get (Γ := Γ) (m := m) (n := n) hi
  rw [cnt_int hk (by omega)] at he
  have hal := aln_lt (kd := kd)
  refine va_iald hx hb hW.2.1 hW.1 i 0 he rfl (i := Int32.ofInt j) (vp_inI hj hal) hd ?_
  have g := h p e R s mm args below meth c A cells slots Q C H locs lc hW hS hL (okc trivial (okt (okt hV)))
  try dsimp only
  rw [clampN hj.1 (by omega), Int.toNat_of_nonneg hj.1]
  exact g
theorem s_zaload {Γ : GG} {d k pc : Nat} {ls : LV} {m : MI} {n : ML} {post : PO} {kd : Nat} {pp j : Int} {r : List AV} (hd : decode (cN k) pc = .ok (.baload, 1)) (hk : akind kd = 2) (hj : 0 ≤ j ∧ j < alen kd) (h : AM Γ d k (pc + 1) ls (vi (m kd pp j) :: r) m n post) : AM Γ d k pc ls (vi j :: vr kd pp :: r) m n post := by
  intro p e R s mm args below meth c A cells slots Q C H locs lc hW hS hL hV
  have hx := C.1.1
  have hb := C.1.2.1
  have hown := C.1.2.2.2.1
  have hts := C.1.2.2.2.2.1
  have hAA := C.1.2.2.2.2.2.2.2.2.2.2.1
  have hG := C.1.2.2.2.2.2.2.2.2.2.2.2.1
  have hvd := vd_of (okh (okt hV)) (by rintro rfl; cases hk)
  obtain ⟨i, hi⟩ := wl_at hvd
  have he := wls_get (Γ := Γ) (m := m) (n := n) hi
  rw [cnt_int hk (by omega)] at he
  have hal := aln_lt (kd := kd)
  refine va_zald hx hb hW.2.1 hW.1 i 1 he rfl (i := Int32.ofInt j) (vp_inI hj hal) hd ?_
  have g := h p e R s mm args below meth c A cells slots Q C H locs lc hW hS hL (okc trivial (okt (okt hV)))
  try dsimp only
  rw [clampN hj.1 (by omega), Int.toNat_of_nonneg hj.1]
  exact g
theorem ak3 {kd : Nat} : akind kd ≠ 3 := by
  unfold akind
  split <;> omega
theorem s_baload {Γ : GG} {d k pc : Nat} {ls : LV} {m : MI} {n : ML} {post : PO} {kd : Nat} {pp j : Int} {r : List AV} (hd : decode (cN k) pc = .ok (.baload, 1)) (hk : akind kd = 3) (hj : 0 ≤ j ∧ j < alen kd) (h : AM Γ d k (pc + 1) ls (vi (m kd pp j) :: r) m n post) : AM Γ d k pc ls (vi j :: vr kd pp :: r) m n post := by
  exact absurd hk ak3
theorem s_laload {Γ : GG} {d k pc : Nat} {ls : LV} {m : MI} {n : ML} {post : PO} {kd : Nat} {pp j : Int} {r : List AV} (hd : decode (cN k) pc = .ok (.laload, 1)) (hk : akind kd = 4) (hj : 0 ≤ j ∧ j < alen kd) (h : AM Γ d k (pc + 1) ls (vl (n kd j) :: r) m n post) : AM Γ d k pc ls (vi j :: vr kd pp :: r) m n post := by
  intro p e R s mm args below meth c A cells slots Q C H locs lc hW hS hL hV
  have hx := C.1.1
  have hb := C.1.2.1
  have hown := C.1.2.2.2.1
  have hts := C.1.2.2.2.2.1
  have hAA := C.1.2.2.2.2.2.2.2.2.2.2.1
  have hG := C.1.2.2.2.2.2.2.2.2.2.2.2.1
  have hvd := vd_of (okh (okt hV)) (by rintro rfl; cases hk)
  obtain ⟨i, hi⟩ := wl_at hvd
  have he := wls_get (Γ := Γ) (m := m) (n := n) hi
  rw [cnt_lng hk] at he
  have hal := aln_lt (kd := kd)
  refine va_lald hx hb hW.2.1 hW.1 i 3 he rfl (i := Int32.ofInt j) (vp_inI hj hal) hd ?_
  have g := h p e R s mm args below meth c A cells slots Q C H locs lc hW hS hL (okc trivial (okt (okt hV)))
  try dsimp only
  rw [clampN hj.1 (by omega), Int.toNat_of_nonneg hj.1]
  exact g
theorem s_aaload {Γ : GG} {d k pc : Nat} {ls : LV} {m : MI} {n : ML} {post : PO} {pp j : Int} {r : List AV} (hd : decode (cN k) pc = .ok (.aaload, 1)) (hj : 0 ≤ j ∧ j < 6) (h : AM Γ d k (pc + 1) ls (vr 3 (m 2 pp j) :: r) m n post) : AM Γ d k pc ls (vi j :: vr 2 pp :: r) m n post := by
  intro p e R s mm args below meth c A cells slots Q C H locs lc hW hS hL hV
  have hx := C.1.1
  have hb := C.1.2.1
  have hown := C.1.2.2.2.1
  have hts := C.1.2.2.2.2.1
  have hAA := C.1.2.2.2.2.2.2.2.2.2.2.1
  have hG := C.1.2.2.2.2.2.2.2.2.2.2.2.1
  have hvd := vd_of (okh (okt hV)) (by omega)
  obtain ⟨i, hi⟩ := wl_at hvd
  have he := wls_get (Γ := Γ) (m := m) (n := n) hi
  rw [cnt_ref rfl] at he
  have hs := hW.2.2.2.2 pp j
  refine va_aldq hx hb hW.2.1 hW.1 i 4 he rfl (i := Int32.ofInt j) (vp_inI (n := 6) hj (by omega)) hd ?_
  have g := h p e R s mm args below meth c A cells slots Q C H locs lc hW hS hL (okc (Or.inl ⟨by omega, hs.1, by simp only [nK]; omega⟩) (okt (okt hV)))
  try dsimp only
  rw [clampN hj.1 (by omega), Int.toNat_of_nonneg hj.1]
  exact g
theorem s_sload {Γ : GG} {d k pc : Nat} {ls : LV} {m : MI} {n : ML} {post : PO} {j : Int} {r : List AV} {pp : Int} (hd : decode (cN k) pc = .ok (.iaload, 1)) (hj : 0 ≤ j ∧ j < m 0 1 0) (h : AM Γ d k (pc + 1) ls (vi (m 0 pp j) :: r) m n post) : AM Γ d k pc ls (vi j :: vr 0 pp :: r) m n post := by
  intro p e R s mm args below meth c A cells slots Q C H locs lc hW hS hL hV
  have hx := C.1.1
  have hb := C.1.2.1
  have hown := C.1.2.2.2.1
  have hts := C.1.2.2.2.2.1
  have hAA := C.1.2.2.2.2.2.2.2.2.2.2.1
  have hG := C.1.2.2.2.2.2.2.2.2.2.2.2.1
  obtain ⟨hk0, -, hp0⟩ : isS k = true ∧ (0 : Nat) = 0 ∧ pp = 0 := by
    rcases okh (okt hV) with ⟨-, q1, q2⟩ | q
    · simp only [nK] at q2; omega
    · exact q
  subst hp0
  obtain ⟨hX, hbl, hbA, hl0, hl1⟩ := C.1.2.2.2.2.2.2.2.2.2.2.2.2 hk0
  have hm0 := hW.2.2.1
  rw [hm0] at hj h
  refine va_sld hx hb hX hbl hbA hS (i := Int32.ofInt j) (vp_inI hj (by omega)) hd ?_
  have g := h p e R s mm args below meth c A cells slots Q C H locs lc hW hS hL (okc trivial (okt (okt hV)))
  try dsimp only
  rw [clampN hj.1 (by omega), Int.toNat_of_nonneg hj.1]
  exact g
theorem upd_int {m : MI} {kd : Nat} {pp j v : Int} (hj : 0 ≤ j) : (fun i : Nat => Int32.ofInt (up m kd pp j v kd pp (i : Int))) = upd (fun i : Nat => Int32.ofInt (m kd pp (i : Int))) j.toNat (Int32.ofInt v) := by
  funext i
  unfold up upd
  by_cases hi : i = j.toNat
  · rw [if_pos hi, if_pos ⟨rfl, rfl, by omega⟩]
  · rw [if_neg hi, if_neg]
    rintro ⟨-, -, q⟩
    omega
theorem s_iastore {Γ : GG} {d k pc : Nat} {ls : LV} {m : MI} {n : ML} {post : PO} {kd : Nat} {pp j v : Int} {r : List AV} (hd : decode (cN k) pc = .ok (.iastore, 1)) (hk : akind kd = 1) (hj : 0 ≤ j ∧ j < alen kd)  (h : AM Γ d k (pc + 1) ls r (up m kd pp j v) n post) : AM Γ d k pc ls (vi v :: vi j :: vr kd pp :: r) m n post := by
  intro p e R s mm args below meth c A cells slots Q C H locs lc hW hS hL hV
  have hx := C.1.1
  have hb := C.1.2.1
  have hown := C.1.2.2.2.1
  have hts := C.1.2.2.2.2.1
  have hAA := C.1.2.2.2.2.2.2.2.2.2.2.1
  have hG := C.1.2.2.2.2.2.2.2.2.2.2.2.1
  have h0 : kd ≠ 0 := by rintro rfl; cases hk
  have hvd := vd_of (okh (okt (okt hV))) h0
  obtain ⟨i, hi⟩ := wl_at hvd
  have he := wls_get (Γ := Γ) (m := m) (n := n) hi
  rw [cnt_int hk (by omega)] at he
  have hal := aln_lt (kd := kd)
  refine va_iast hx hb hW.2.1 hW.1 (wls_D hG hAA) hS i 0 he rfl (i := Int32.ofInt j) (x := Int32.ofInt v) (vp_inI hj hal) hd (fun H1 locs1 hP1 _ hS1 => ?_)
  rw [clampN hj.1 (by omega), ← upd_int hj.1, wls_set hi (cnt_int hk (by omega)) (fun k' p' hne _ => cnt_congr (up_ne hne) rfl)] at hP1
  exact h p e R s mm args below meth c A cells slots Q C H1 locs1 lc (wd_up hW hP1 h0 (by rw [hk]; intro q; cases q) (by rintro rfl; cases hk)) hS1 hL (okt (okt (okt hV)))
theorem nar_z {v : Int} (h : v = 0 ∨ v = 1) : vp_nar .boolean (Int32.ofInt v) = Int32.ofInt v := by
  rcases h with rfl | rfl <;> decide +kernel
theorem nar_b {v : Int} (h : -128 ≤ v ∧ v < 128) : vp_nar .byte (Int32.ofInt v) = Int32.ofInt v := by
  rw [vp_nar_byte, ← Int32.ofInt_int8ToInt]
  congr 1
  have e : (Int32.ofInt v).toInt8 = Int8.ofInt v := by
    rw [← Int8.toInt_inj, Int32.toInt_toInt8, toI ⟨by omega, by omega⟩, Int8.toInt_ofInt]
  rw [e, Int8.toInt_ofInt_of_le (by omega) (by omega)]
theorem s_zastore {Γ : GG} {d k pc : Nat} {ls : LV} {m : MI} {n : ML} {post : PO} {kd : Nat} {pp j v : Int} {r : List AV} (hd : decode (cN k) pc = .ok (.bastore, 1)) (hk : akind kd = 2) (hj : 0 ≤ j ∧ j < alen kd) (hv : v = 0 ∨ v = 1) (h : AM Γ d k (pc + 1) ls r (up m kd pp j v) n post) : AM Γ d k pc ls (vi v :: vi j :: vr kd pp :: r) m n post := by
  intro p e R s mm args below meth c A cells slots Q C H locs lc hW hS hL hV
  have hx := C.1.1
  have hb := C.1.2.1
  have hown := C.1.2.2.2.1
  have hts := C.1.2.2.2.2.1
  have hAA := C.1.2.2.2.2.2.2.2.2.2.2.1
  have hG := C.1.2.2.2.2.2.2.2.2.2.2.2.1
  have h0 : kd ≠ 0 := by rintro rfl; cases hk
  have hvd := vd_of (okh (okt (okt hV))) h0
  obtain ⟨i, hi⟩ := wl_at hvd
  have he := wls_get (Γ := Γ) (m := m) (n := n) hi
  rw [cnt_int hk (by omega)] at he
  have hal := aln_lt (kd := kd)
  refine va_zast hx hb hW.2.1 hW.1 (wls_D hG hAA) hS i 1 he rfl (i := Int32.ofInt j) (x := Int32.ofInt v) (vp_inI hj hal) hd (fun H1 locs1 hP1 _ hS1 => ?_)
  rw [clampN hj.1 (by omega), nar_z hv, ← upd_int hj.1, wls_set hi (cnt_int hk (by omega)) (fun k' p' hne _ => cnt_congr (up_ne hne) rfl)] at hP1
  exact h p e R s mm args below meth c A cells slots Q C H1 locs1 lc (wd_up hW hP1 h0 (fun _ => hv) (by rintro rfl; cases hk)) hS1 hL (okt (okt (okt hV)))
theorem s_bastore {Γ : GG} {d k pc : Nat} {ls : LV} {m : MI} {n : ML} {post : PO} {kd : Nat} {pp j v : Int} {r : List AV} (hd : decode (cN k) pc = .ok (.bastore, 1)) (hk : akind kd = 3) (hj : 0 ≤ j ∧ j < alen kd) (hv : -128 ≤ v ∧ v < 128) (h : AM Γ d k (pc + 1) ls r (up m kd pp j v) n post) : AM Γ d k pc ls (vi v :: vi j :: vr kd pp :: r) m n post := by
  exact absurd hk ak3
theorem s_lastore {Γ : GG} {d k pc : Nat} {ls : LV} {m : MI} {n : ML} {post : PO} {kd : Nat} {pp j : Int} {v : Int64} {r : List AV} (hd : decode (cN k) pc = .ok (.lastore, 1)) (hk : akind kd = 4) (hj : 0 ≤ j ∧ j < alen kd) (h : AM Γ d k (pc + 1) ls r m (ul n kd j v) post) : AM Γ d k pc ls (vl v :: vi j :: vr kd pp :: r) m n post := by
  intro p e R s mm args below meth c A cells slots Q C H locs lc hW hS hL hV
  have hx := C.1.1
  have hb := C.1.2.1
  have hown := C.1.2.2.2.1
  have hts := C.1.2.2.2.2.1
  have hAA := C.1.2.2.2.2.2.2.2.2.2.2.1
  have hG := C.1.2.2.2.2.2.2.2.2.2.2.2.1
  have h0 : kd ≠ 0 := by rintro rfl; cases hk
  have hvd := vd_of (okh (okt (okt hV))) h0
  have hkd : kd = 23 := by
    unfold akind at hk
    split at hk <;> first | rfl | cases hk
  subst hkd
  have hp0 : pp = 0 := by obtain ⟨-, q1, q2⟩ := hvd; simp only [nK] at q2; omega
  subst hp0
  obtain ⟨i, hi⟩ := wl_at hvd
  have he := wls_get (Γ := Γ) (m := m) (n := n) hi
  rw [cnt_lng hk] at he
  have hal := aln_lt (kd := 23)
  refine va_last hx hb hW.2.1 hW.1 (wls_D hG hAA) hS i 3 he rfl (i := Int32.ofInt j) (x := v) (vp_inI hj hal) hd (fun H1 locs1 hP1 _ hS1 => ?_)
  rw [clampN hj.1 (by omega), wls_set (m' := m) (n' := ul n 23 j v) hi (by
      rw [cnt_lng hk]
      congr 5
      funext q
      unfold ul vp_updL
      by_cases hq : q = j.toNat
      · rw [if_pos hq, if_pos ⟨rfl, by omega⟩]
      · rw [if_neg hq, if_neg]
        rintro ⟨-, z⟩
        omega) (fun k' p' hne hv' => by
    by_cases h22 : k' = 23
    · subst h22
      obtain ⟨-, q1, q2⟩ := hv'
      simp only [nK] at q2
      exact absurd ⟨rfl, by omega⟩ hne
    · exact cnt_congr rfl (ul_ne h22))] at hP1
  exact h p e R s mm args below meth c A cells slots Q C H1 locs1 lc ⟨hP1, hW.2⟩ hS1 hL (okt (okt (okt hV)))
theorem s_aastore {Γ : GG} {d k pc : Nat} {ls : LV} {m : MI} {n : ML} {post : PO} {pp j q : Int} {r : List AV} (hd : decode (cN k) pc = .ok (.aastore, 1)) (hj : 0 ≤ j ∧ j < 6) (h : AM Γ d k (pc + 1) ls r (up m 2 pp j q) n post) : AM Γ d k pc ls (vr 3 q :: vi j :: vr 2 pp :: r) m n post := by
  intro p e R s mm args below meth c A cells slots Q C H locs lc hW hS hL hV
  have hx := C.1.1
  have hb := C.1.2.1
  have hown := C.1.2.2.2.1
  have hts := C.1.2.2.2.2.1
  have hAA := C.1.2.2.2.2.2.2.2.2.2.2.1
  have hG := C.1.2.2.2.2.2.2.2.2.2.2.2.1
  have hvd := vd_of (okh (okt (okt hV))) (by omega)
  have hvq := vd_of (okh hV) (by omega)
  obtain ⟨i, hi⟩ := wl_at hvd
  obtain ⟨iq, hiq⟩ := wl_at hvq
  have he := wls_get (Γ := Γ) (m := m) (n := n) hi
  have heq := wls_get (Γ := Γ) (m := m) (n := n) hiq
  rw [cnt_ref rfl] at he
  rw [cnt_obj rfl] at heq
  refine va_astq hx hb hW.2.1 hW.1 (wls_D hG hAA) hS i 4 iq 2 (r := (RX2, TX2, 11)) he rfl heq rfl (i := Int32.ofInt j) (vp_inI (n := 6) hj (by omega)) hd (fun H1 locs1 hP1 _ hS1 => ?_)
  rw [clampN hj.1 (by omega), wls_set (m' := up m 2 pp j q) (n' := n) hi (by
      rw [cnt_ref rfl]
      congr 7
      funext z
      unfold up va_up
      by_cases hz : z = j.toNat
      · rw [if_pos hz, if_pos ⟨rfl, rfl, by omega⟩]
      · rw [if_neg hz, if_neg]
        rintro ⟨-, -, y⟩
        omega) (fun k' p' hne _ => cnt_congr (up_ne hne) rfl)] at hP1
  exact h p e R s mm args below meth c A cells slots Q C H1 locs1 lc (wd_up hW hP1 (by omega) (by intro z; cases z) (fun _ => by obtain ⟨-, q1, q2⟩ := hvq; simp only [nK] at q2; omega)) hS1 hL (okt (okt (okt hV)))
theorem s_alen {Γ : GG} {d k pc : Nat} {ls : LV} {m : MI} {n : ML} {post : PO} {kd : Nat} {pp : Int} {r : List AV} (hd : decode (cN k) pc = .ok (.arraylength, 1)) (h7 : akind kd ≠ 7) (h0 : akind kd ≠ 0) (h : AM Γ d k (pc + 1) ls (vi (aln m kd) :: r) m n post) : AM Γ d k pc ls (vr kd pp :: r) m n post := by
  intro p e R s mm args below meth c A cells slots Q C H locs lc hW hS hL hV
  have hx := C.1.1
  have hb := C.1.2.1
  have hown := C.1.2.2.2.1
  have hts := C.1.2.2.2.2.1
  have hAA := C.1.2.2.2.2.2.2.2.2.2.2.1
  have hG := C.1.2.2.2.2.2.2.2.2.2.2.2.1
  have g := h p e R s mm args below meth c A cells slots Q C H locs lc hW hS hL (okc trivial (okt hV))
  by_cases hs : kd = 0
  · subst hs
    obtain ⟨hk0, -, hp0⟩ : isS k = true ∧ (0 : Nat) = 0 ∧ pp = 0 := by
      rcases okh hV with ⟨-, q1, q2⟩ | q
      · simp only [nK] at q2; omega
      · exact q
    subst hp0
    obtain ⟨hX, hbl, hbA, hl0, hl1⟩ := C.1.2.2.2.2.2.2.2.2.2.2.2.2 hk0
    have hm0 := hW.2.2.1
    have hnum : Int32.ofNat (gS Γ 1 0).toNat = Int32.ofInt (aln m 0) := by
      simp only [aln, hm0]
      rw [show Int32.ofNat (gS Γ 1 0).toNat = Int32.ofInt ((gS Γ 1 0).toNat : Int) from rfl, Int.toNat_of_nonneg hl0]
    exact va_slen hx hb hX hbl hbA hS hd (by rw [hnum]; exact g)
  · have hvd := vd_of (okh hV) hs
    obtain ⟨i, hi⟩ := wl_at hvd
    have he := wls_get (Γ := Γ) (m := m) (n := n) hi
    have ha : aln m kd = alen kd := by
      unfold aln
      split
      · exact absurd rfl hs
      · rfl
    have hal : 0 ≤ alen kd := by unfold alen; split <;> omega
    have hnum : Int32.ofNat (alen kd).toNat = Int32.ofInt (aln m kd) := by
      rw [ha, show Int32.ofNat (alen kd).toNat = Int32.ofInt ((alen kd).toNat : Int) from rfl, Int.toNat_of_nonneg hal]
    have hcase : akind kd = 1 ∨ akind kd = 2 ∨ akind kd = 3 ∨ akind kd = 4 ∨ akind kd = 5 := by
      unfold akind at h7 h0 ⊢
      split at h7 <;> simp_all
    rcases hcase with hk | hk | hk | hk | hk
    · rw [cnt_int hk (by omega)] at he; exact va_alen hx hb hW.2.1 hW.1 i 0 he rfl hnum hd g
    · rw [cnt_int hk (by omega)] at he; exact va_alen hx hb hW.2.1 hW.1 i 1 he rfl hnum hd g
    · exact absurd hk ak3
    · rw [cnt_lng hk] at he; exact va_alen hx hb hW.2.1 hW.1 i 3 he rfl hnum hd g
    · rw [cnt_ref hk] at he; exact va_alen hx hb hW.2.1 hW.1 i 4 he rfl hnum hd g
