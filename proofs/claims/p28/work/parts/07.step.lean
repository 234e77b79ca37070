theorem t1I_inv {st : List AV} {K : Int → List AV → Prop} (h : t1I st K) : ∃ x r, st = vi x :: r ∧ K x r := by
  unfold t1I at h
  split at h
  · exact ⟨_, _, rfl, h⟩
  · exact h.elim
theorem t1L_inv {st : List AV} {K : Int64 → List AV → Prop} (h : t1L st K) : ∃ x r, st = vl x :: r ∧ K x r := by
  unfold t1L at h
  split at h
  · exact ⟨_, _, rfl, h⟩
  · exact h.elim
theorem t1R_inv {st : List AV} {K : Nat → Int → List AV → Prop} (h : t1R st K) : ∃ a b r, st = vr a b :: r ∧ K a b r := by
  unfold t1R at h
  split at h
  · exact ⟨_, _, _, rfl, h⟩
  · exact h.elim
theorem ldI_inv {ls : LV} {x : Nat} {K : Int → Prop} (h : ldI ls x K) : ∃ v, ls.getD x none = some (vi v) ∧ K v := by
  unfold ldI at h
  split at h
  · rename_i v e; exact ⟨v, e, h⟩
  · exact h.elim
theorem ldL_inv {ls : LV} {x : Nat} {K : Int64 → Prop} (h : ldL ls x K) : ∃ v, ls.getD x none = some (vl v) ∧ K v := by
  unfold ldL at h
  split at h
  · rename_i v e; exact ⟨v, e, h⟩
  · exact h.elim
theorem ldR_inv {ls : LV} {x : Nat} {K : Nat → Int → Prop} (h : ldR ls x K) : ∃ a b, ls.getD x none = some (vr a b) ∧ K a b := by
  unfold ldR at h
  split at h
  · rename_i a b e; exact ⟨a, b, e, h⟩
  · exact h.elim
theorem sto_inv {ls : LV} {x : Nat} {v : AV} {K : LV → Prop} (h : sto ls x v K) : x < ls.length ∧ prevL ls x = false ∧ K (ls.set x (some v)) := by
  unfold sto at h
  split at h
  · rename_i e
    rw [Bool.and_eq_true] at e
    refine ⟨by have := e.1; simpa [Nat.blt_eq] using this, by simpa using e.2, h⟩
  · exact h.elim
theorem sto2_inv {ls : LV} {x : Nat} {v : Int64} {K : LV → Prop} (h : sto2 ls x v K) : x + 1 < ls.length ∧ prevL ls x = false ∧ K ((ls.set x (some (vl v))).set (x + 1) none) := by
  unfold sto2 at h
  split at h
  · rename_i e
    rw [Bool.and_eq_true] at e
    refine ⟨by have := e.1; simpa [Nat.blt_eq] using this, by simpa using e.2, h⟩
  · exact h.elim
theorem bo_inv {b : Bool} {P : Prop} (h : bo b P) : b = true ∧ P := by
  unfold bo at h
  split at h
  · exact ⟨rfl, h⟩
  · exact h.elim
theorem callA_inv {Γ : GG} {d k2 na : Nat} {ck : List AV → Bool} {ls : LV} {st : List AV} {m : MI} {n : ML} {K : LV → List AV → MI → ML → Prop} (h : callA Γ d k2 na ck ls st m n K) : ∃ d2 as rest, d = d2 + 1 ∧ popN na [] st = some (as, rest) ∧ ck as = true ∧ as.all noS = true ∧ catS rest ≤ 8 ∧ CM Γ d2 k2 as m n (fun r m2 n2 => K ls (r.toList ++ rest) m2 n2) := by
  unfold callA at h
  split at h
  · exact h.elim
  · rename_i d2
    split at h
    · exact h.elim
    · rename_i as rest e
      obtain ⟨h1, h2⟩ := bo_inv h
      simp only [Bool.and_eq_true, Nat.ble_eq] at h1
      exact ⟨d2, as, rest, rfl, e, h1.1.1, h1.1.2, h1.2, h2⟩
theorem CM.mono {Γ : GG} {d k : Nat} {as : List AV} {m : MI} {n : ML} {P P' : PO} (h : CM Γ d k as m n P) (hP : ∀ r m' n', P r m' n' → P' r m' n') : CM Γ d k as m n P' := by
  intro hG hV p e ha hc hk s mm args below hf happ hpre htr
  obtain ⟨t, o, h1, h2, h3, ⟨⟨⟨r, m', n', g1, g2, g3⟩, g4⟩, g5⟩⟩ := h hG hV p e ha hc hk s mm args below hf happ hpre htr
  exact ⟨t, o, h1, h2, h3, ⟨⟨⟨r, m', n', g1, hP _ _ _ g2, g3⟩, g4⟩, g5⟩⟩
set_option maxHeartbeats 4000000 in
def entL : List AV → LV
  | [] => []
  | .inr (.inl x) :: r => some (vl x) :: none :: entL r
  | v :: r => some v :: entL r
theorem entL_cons1 {v : AV} {r : List AV} (h : isL (some v) = false) : entL (v :: r) = some v :: entL r := by
  rcases v with x | x | ⟨a, b⟩ <;> simp [entL, isL] at *
theorem entL_mem : ∀ (as : List AV) (v : AV), some v ∈ entL as → v ∈ as
  | [], v, h => by simp [entL] at h
  | .inr (.inl x) :: r, v, h => by
    simp only [entL, List.mem_cons] at h
    rcases h with h | h | h
    · cases h; exact List.mem_cons_self
    · cases h
    · exact List.mem_cons_of_mem _ (entL_mem r v h)
  | .inl x :: r, v, h => by
    simp only [entL, List.mem_cons] at h
    rcases h with h | h
    · cases h; exact List.mem_cons_self
    · exact List.mem_cons_of_mem _ (entL_mem r v h)
  | .inr (.inr x) :: r, v, h => by
    simp only [entL, List.mem_cons] at h
    rcases h with h | h
    · cases h; exact List.mem_cons_self
    · exact List.mem_cons_of_mem _ (entL_mem r v h)
theorem asc_ent {Γ : GG} : ∀ (as : List AV) (i : Nat), asc Γ i (entL as) = lv_args i (as.map (cv Γ))
  | [], i => rfl
  | .inr (.inl x) :: r, i => by
    simp only [entL, asc, List.map_cons, lv_args, cv, Value.category, if_true]
    rw [asc_ent r (i + 1 + 1)]
  | .inl x :: r, i => by
    simp only [entL, asc, List.map_cons, lv_args, cv, Value.category]
    rw [asc_ent r (i + 1)]
    rfl
  | .inr (.inr x) :: r, i => by
    simp only [entL, asc, List.map_cons, lv_args, cv, Value.category]
    rw [asc_ent r (i + 1)]
    rfl
theorem asc_none {Γ : GG} : ∀ (z i : Nat), asc Γ i (List.replicate z none) = []
  | 0, i => rfl
  | z + 1, i => by rw [List.replicate_succ, asc, asc_none z (i + 1)]
theorem asc_app {Γ : GG} : ∀ (a b : LV) (i : Nat), asc Γ i (a ++ b) = asc Γ i a ++ asc Γ (i + a.length) b
  | [], b, i => rfl
  | none :: a, b, i => by
    simp only [List.cons_append, asc, asc_app a b (i + 1), List.length_cons]
    rw [show i + (a.length + 1) = i + 1 + a.length by omega]
  | some v :: a, b, i => by
    simp only [List.cons_append, asc, asc_app a b (i + 1), List.length_cons]
    rw [show i + (a.length + 1) = i + 1 + a.length by omega]
theorem lg_len {Γ : GG} : ∀ (as : List AV), (lg_sl (as.map (cv Γ))).length = (entL as).length
  | [] => rfl
  | .inr (.inl x) :: r => by
    have := lg_len (Γ := Γ) r
    simp only [entL, List.map_cons, lg_sl, cv, Value.category, List.length_cons] at *
    simp [this]
  | .inl x :: r => by
    have := lg_len (Γ := Γ) r
    simp only [entL, List.map_cons, lg_sl, cv, Value.category, List.length_cons] at *
    simp [this]
  | .inr (.inr x) :: r => by
    have := lg_len (Γ := Γ) r
    simp only [entL, List.map_cons, lg_sl, cv, Value.category, List.length_cons] at *
    simp [this]
def entZ (k : Nat) (as : List AV) : LV := entL as ++ List.replicate (mL k - (entL as).length) none
theorem CM.of_AM {Γ : GG} {d k : Nat} {as : List AV} {m : MI} {n : ML} {post : PO} {ls : LV} (hk : plainName (yN k).cls = true) (ho : (yN k).cls = oN (oI k)) (hk0 : isS k = false) (hls : entZ k as = ls) (hlen : (entL as).length ≤ mL k)
    (h : AM Γ d k 0 ls [] m n post) : CM Γ d k as m n post := by
  intro hG hV
  refine Met.ofW (cc := cN k) (maxL := mL k) (ret := rT k) hk rfl ?_
  intro p e s mm args below meth c s₁ B hml hPc
  obtain ⟨rfl, hW, hnw⟩ := hPc
  have hts := atoms_spec (ws := wsM k) B.pre
  have hown : s.vm.findClass (oN (oI k)) = some mm.cls := by
    rw [← ho]
    exact findClass_of_methodNamed B.named
  have hlocks := B.notSynchronized
  have hent := lv_entry (as.map (cv Γ)) (n := mL k) (by rw [lg_len]; exact hlen)
  rw [lg_entry_eq]
  have hL : LOK Γ k ((lg_sl (as.map (cv Γ)) ++ List.replicate (mL k - (lg_sl (as.map (cv Γ))).length) Slot.unset).toArray) ls := by
    subst hls
    refine ⟨?_, ?_, fun v hv => ?_⟩
    · unfold entZ
      rw [asc_app, asc_none, List.append_nil, asc_ent]
      exact hent
    · simp only [entZ, List.length_append, List.length_replicate]
      omega
    · rcases List.mem_append.mp hv with h1 | h1
      · exact okv_okr (hV v (entL_mem as v h1))
      · exact absurd (List.eq_of_mem_replicate h1) (by intro q; cases q)
  refine h p e (rmd d) s mm _ below meth c (fr Γ) 0 0 _ ⟨⟨B.exec, B.bytes, hml, hown, fun w hw => hts w (List.mem_cons_of_mem _ hw), hnw, Nat.le_refl _, Nat.le_refl _, Nat.le_refl _, Nat.le_refl _, fun kk pp hv => ⟨kk, pp, hv, rfl⟩, hG, fun q => by rw [hk0] at q; cases q⟩, ?_⟩ s.heap [] _ hW va_S.rf hL (fun v hv => by cases hv)
  intro r m' n' H' locs' ls' pc' hp hW' hS' hR
  have hq : ∀ (t : State), t.heap = H' → s.WarmedH t.vm → (∀ v, r = some v → okv v) → Qm Γ post (as.map (cv Γ)).toArray s (.returned (r.map (cv Γ))) t := fun t h1 h2 h3 =>
    ⟨⟨r, m', n', rfl, hp, by rw [h1]; exact wd_moved hW' h2.alike, h3⟩, hS'.F h1⟩
  rcases r with _ | x | x | x
  · exact W.vret B.exec B.bytes (B.returns.trans hR.2) (fun t h1 h2 => hq t h1 h2 (fun v q => by cases q)) hS'.2.2 hR.1
  · rcases hR.2 with h1 | ⟨h1, h2⟩
    · exact W.iret B.exec B.bytes (B.returns.trans h1) (fun t h1 h2 => hq t h1 h2 (fun v q => by cases q; trivial)) hS'.2.2 hR.1
    · refine W.zret B.exec B.bytes (B.returns.trans h1) ?_ (fun t h1 h2 => hq t h1 h2 (fun v q => by cases q; trivial)) hS'.2.2 hR.1
      rcases h2 with rfl | rfl <;> decide +kernel
  · exact W.lret B.exec B.bytes (B.returns.trans hR.2) (fun t h1 h2 => hq t h1 h2 (fun v q => by cases q; trivial)) hS'.2.2 hR.1
  · exact hR.elim
-- the law's call of its cell
theorem cell_body {Γ : GG} {m : MI} {n : ML} {post : PO} {j : Int} (hj : 0 ≤ j ∧ j ≤ 1000) (hl : 0 ≤ m 0 1 0 ∧ m 0 1 0 ≤ 2048) (h : post (some (vi (cellV m j))) m n) : AM Γ 0 78 0 [some (vr 0 0), some (vi j)] [] m n post := by
  refine s_iload_n (x := 1) (v := j) (by decide +kernel) rfl ?_
  refine s_aload_n (x := 0) (v := (0, 0)) (by decide +kernel) rfl ?_
  refine s_alen (by decide +kernel) (by decide) (by decide) ?_
  refine s_icmp (cc := .ge) (o := 9) (t := 12) (by decide +kernel) (by decide) ⟨by omega, by omega⟩ ⟨by show _ ≤ m 0 1 0; omega, by show m 0 1 0 ≤ _; omega⟩ (fun q => ?_) (fun q => ?_)
  · have q : ¬ j < m 0 1 0 := q
    have e : cellV m j = 7919 * (j + 3) * (j + 11) := if_neg q
    rw [e] at h
    refine s_sipush (v := 7919) (by decide +kernel) ⟨by decide, by decide⟩ ?_
    refine s_iload_n (x := 1) (v := j) (by decide +kernel) rfl ?_
    refine s_iconst (v := 3) (by decide +kernel) ?_
    refine s_iadd (by decide +kernel) ?_
    refine s_imul (by decide +kernel) ?_
    refine s_iload_n (x := 1) (v := j) (by decide +kernel) rfl ?_
    refine s_bipush (v := 11) (by decide +kernel) ⟨by decide, by decide⟩ ?_
    refine s_iadd (by decide +kernel) ?_
    refine s_imul (by decide +kernel) ?_
    exact s_ret (r := some (vi _)) ⟨by decide +kernel, Or.inl (by decide +kernel)⟩ h
  · have q : j < m 0 1 0 := Decidable.not_not.mp q
    have e : cellV m j = m 0 0 j := if_pos q
    rw [e] at h
    refine s_aload_n (x := 0) (v := (0, 0)) (by decide +kernel) rfl ?_
    refine s_iload_n (x := 1) (v := j) (by decide +kernel) rfl ?_
    refine s_sload (by decide +kernel) ⟨hj.1, q⟩ ?_
    refine s_goto (o := 15) (t := 24) (by decide +kernel) (by decide) ?_
    exact s_ret (r := some (vi _)) ⟨by decide +kernel, Or.inl (by decide +kernel)⟩ h
def PcS (Γ : GG) (m : MI) (n : ML) : State → Prop := fun U => (Wd Γ m n U U.heap ∧ Nws U) ∧ va_X (gA Γ 0 0) (gS Γ 1 0).toNat (fun j => Int32.ofInt (gS Γ 0 (j : Int))) U U.heap ∧ gA Γ 0 0 < U.heap.size
theorem cell_met {Γ : GG} {m : MI} {n : ML} {post : PO} {j : Int} (hG : GOK Γ) (hnb : ¬ fr Γ (gA Γ 0 0)) (hL : 0 ≤ gS Γ 1 0 ∧ gS Γ 1 0 ≤ 2048) (hj : 0 ≤ j ∧ j ≤ 1000) (hp : post (some (vi (cellV m j))) m n) : Met Γ.1 (yN 78) (wsM 78) (rmd 0) (va_Pc [.ref (gA Γ 0 0), .int (Int32.ofInt j)] (PcS Γ m n)) (Qm Γ post) 0 0 (fr Γ) := by
  refine Met.ofW (cc := cN 78) (maxL := mL 78) (ret := rT 78) (by decide +kernel) rfl ?_
  intro p e s mm args below meth c s₁ B hml hPc
  obtain ⟨rfl, ⟨hW, hnw⟩, hX, hbl⟩ := hPc
  have hts := atoms_spec (ws := wsM 78) B.pre
  have hown : s.vm.findClass (oN (oI 78)) = some mm.cls := by
    rw [← (okS_78).2.2.2]
    exact findClass_of_methodNamed B.named
  have hlocks := B.notSynchronized
  have hent := lv_entry ([vr 0 0, vi j].map (cv Γ)) (n := mL 78) (by rw [lg_len]; show 2 ≤ mL 78; decide +kernel)
  rw [lg_entry_eq]
  have hLk : LOK Γ 78 ((lg_sl ([vr 0 0, vi j].map (cv Γ)) ++ List.replicate (mL 78 - (lg_sl ([vr 0 0, vi j].map (cv Γ))).length) Slot.unset).toArray) [some (vr 0 0), some (vi j)] := by
    refine ⟨?_, by show 2 = mL 78; decide +kernel, fun v hv => ?_⟩
    · have e2 : ([some (vr 0 0), some (vi j)] : LV) = entL [vr 0 0, vi j] := rfl
      rw [e2, asc_ent]
      exact hent
    · simp only [List.mem_cons, Option.some.injEq, List.not_mem_nil, or_false] at hv
      rcases hv with rfl | rfl
      · exact Or.inr ⟨rfl, rfl, rfl⟩
      · trivial
  have hm := hW.2.2.1
  have hb := cell_body (Γ := Γ) (m := m) (n := n) (post := post) hj (by rw [hm]; exact hL) hp
  refine hb p e (rmd 0) s mm _ below meth c (fr Γ) 0 0 _ ⟨⟨B.exec, B.bytes, hml, hown, fun w hw => hts w (List.mem_cons_of_mem _ hw), hnw, Nat.le_refl _, Nat.le_refl _, Nat.le_refl _, Nat.le_refl _, fun kk pp hv => ⟨kk, pp, hv, rfl⟩, hG, fun _ => ⟨hX, hbl, hnb, hL⟩⟩, ?_⟩ s.heap [] _ hW va_S.rf hLk (fun v hv => by cases hv)
  intro r m' n' H' locs' ls' pc' hp' hW' hS' hR
  have hq : ∀ (t : State), t.heap = H' → s.WarmedH t.vm → (∀ v, r = some v → okv v) → Qm Γ post #[.ref (gA Γ 0 0), .int (Int32.ofInt j)] s (.returned (r.map (cv Γ))) t := fun t h1 h2 h3 =>
    ⟨⟨r, m', n', rfl, hp', by rw [h1]; exact wd_moved hW' h2.alike, h3⟩, hS'.F h1⟩
  rcases r with _ | x | x | x
  · exact W.vret B.exec B.bytes (B.returns.trans hR.2) (fun t h1 h2 => hq t h1 h2 (fun v q => by cases q)) hS'.2.2 hR.1
  · rcases hR.2 with h1 | ⟨h1, h2⟩
    · exact W.iret B.exec B.bytes (B.returns.trans h1) (fun t h1 h2 => hq t h1 h2 (fun v q => by cases q; trivial)) hS'.2.2 hR.1
    · refine W.zret B.exec B.bytes (B.returns.trans h1) ?_ (fun t h1 h2 => hq t h1 h2 (fun v q => by cases q; trivial)) hS'.2.2 hR.1
      rcases h2 with rfl | rfl <;> decide +kernel
  · exact W.lret B.exec B.bytes (B.returns.trans hR.2) (fun t h1 h2 => hq t h1 h2 (fun v q => by cases q; trivial)) hS'.2.2 hR.1
  · exact hR.elim
theorem s_cell {Γ : GG} {d k pc : Nat} {ls : LV} {m : MI} {n : ML} {post : PO} {q : Nat} {j pp : Int} {r : List AV} (hd : decode (cN k) pc = .ok (.invokestatic q, 3)) (hl : (oI k, q, kcl) ∈ LM) (hr : catS r ≤ 8) (hdd : 1 ≤ d) (hj : 0 ≤ j ∧ j ≤ 1000) (h : AM Γ d k (pc + 3) ls (vi (cellV m j) :: r) m n post) : AM Γ d k pc ls (vi j :: vr 0 pp :: r) m n post := by
  intro p e R s mm args below meth c A cells slots Q C H locs lc hW hS hL hV
  have hx := C.1.1
  have hb := C.1.2.1
  have hml := C.1.2.2.1
  have hown := C.1.2.2.2.1
  have hts := C.1.2.2.2.2.1
  have hnw := C.1.2.2.2.2.2.1
  have hfr := C.1.2.2.2.2.2.2.1
  have hlo := C.1.2.2.2.2.2.2.2.1
  have hce := C.1.2.2.2.2.2.2.2.2.1
  have hsl := C.1.2.2.2.2.2.2.2.2.2.1
  have hAA := C.1.2.2.2.2.2.2.2.2.2.2.1
  have hG := C.1.2.2.2.2.2.2.2.2.2.2.2.1
  obtain ⟨hk0, -, hp0⟩ : isS k = true ∧ (0 : Nat) = 0 ∧ pp = 0 := by
    rcases okh (okt hV) with ⟨-, q1, q2⟩ | q
    · simp only [nK] at q2; omega
    · exact q
  subst hp0
  obtain ⟨hX, hbl, hbA, hl0, hl1⟩ := C.1.2.2.2.2.2.2.2.2.2.2.2.2 hk0
  have hVr : ∀ v ∈ r, okr k v := okt (okt hV)
  have hlk := LM_ok _ hl
  obtain ⟨w1, w3, w4, w5⟩ := okS_78
  have hne := oN_ne (oI 78)
  have hM := cell_met (Γ := Γ) (m := m) (n := n) (post := fun r' m' n' => r' = some (vi (cellV m j)) ∧ m' = m ∧ n' = n) (j := j) hG (fun z => hbA (fr_A hAA _ z)) ⟨hl0, hl1⟩ hj ⟨rfl, rfl, rfl⟩
  have hXH : va_X (gA Γ 0 0) (gS Γ 1 0).toNat (fun j => Int32.ofInt (gS Γ 0 (j : Int))) s H := hX.kept (hS.2.1 _ hbl hbA)
  have hblH : gA Γ 0 0 < H.size := Nat.lt_of_lt_of_le hbl hS.1
  have hpre : PreS s H (va_Pc [.ref (gA Γ 0 0), .int (Int32.ofInt j)] (PcS Γ m n)) [.ref (gA Γ 0 0), .int (Int32.ofInt j)] :=
    ⟨fun a U g mk q => ⟨q.1, ⟨wd_moved (U := U.calling g mk a) q.2.1.1 (Vm.Alike.refl U.vm), nws_same (U := U.calling g mk a) rfl q.2.1.2⟩, va_X.moved (U := U.calling g mk a) (Vm.Alike.refl U.vm) q.2.2.1, q.2.2.2⟩, fun U hU hw => ⟨rfl, ⟨by rw [hU]; exact wd_moved hW hw.alike, nws_warm hw hnw⟩, by rw [hU]; exact hXH.moved hw.alike, by rw [hU]; exact hblH⟩⟩
  have hm78 : mL 78 = 2 := by decide +kernel
  have cw : CallB R s args (oN (oI k)) q (yN 78) (cN 78) (mL 78) (rT 78) (wsM 78) (rmd 0) 0 0 2 ∧ (Cond.static (yN 78)).before args s = true := by
    refine ⟨callB_of 2 hts (wsM_good 78 w4) rfl rfl rfl (by rw [w5]; exact hts _ w3) (hts _ hlk) ⟨by rw [w5]; exact hne.1, by rw [w5]; exact hne.2, by decide +kernel⟩ ⟨by show 0 + 1 ≤ R.frames; omega, by show 8 + (mL 78 + 11) + 40 * 0 ≤ R.locals; omega⟩, hts _ w1⟩
  have hrun := va_runS (e := e) (R := R) (below := below) (meth := meth) (locs := locs) (As := [.ref (gA Γ 0 0), .int (Int32.ofInt j)]) (rest := r.map (cv Γ)) (g := F0 mm pc lc ((vi j :: vr 0 0 :: r).map (cv Γ))) ⟨hx, hb, hml, hown, hts⟩ hM cw hpre rfl rfl hL.1.1 (by simp [cv]) (by rw [catS_eq]; show 2 * 0 + _ ≤ 8; omega) hd ⟨by omega, by omega⟩
  refine call_on hAA hrun hS (fun r' m2 n2 H1 locs1 hp2 hW1 hS1 hok => ?_)
  obtain ⟨rfl, rfl, rfl⟩ := hp2
  exact h p e R s mm args below meth c A cells slots Q C H1 locs1 lc hW1 hS1 hL (okc trivial hVr)
theorem st1_ok {Γ : GG} {d k pc : Nat} {post : PO} {i : II} {ls : LV} {st : List AV} {m : MI} {n : ML} {K : LV → List AV → MI → ML → Prop} (hc : chk k pc i = true) (h : st1 Γ d k post i pc ls st m n K)
    (hK : ∀ ls' st' m' n', K ls' st' m' n' → AM Γ d k (pc + i.2.1) ls' st' m' n' post) : AM Γ d k pc ls st m n post := by
  obtain ⟨ins, len, a, b, cs⟩ := i
  unfold chk at hc
  rw [Bool.and_eq_true, decide_eq_true_eq] at hc
  obtain ⟨hd, hc⟩ := hc
  cases ins <;> (try exact h.elim)
  case iconst v =>
    dsimp only [xl] at hc
    simp [Nat.beq_eq] at hc
    subst hc
    exact s_iconst hd (hK _ _ _ _ h)
  case bipush v =>
    dsimp only [xl] at hc
    simp [Nat.beq_eq] at hc
    obtain ⟨rfl, hc⟩ := hc
    exact s_bipush hd hc (hK _ _ _ _ h)
  case sipush v =>
    dsimp only [xl] at hc
    simp [Nat.beq_eq] at hc
    obtain ⟨rfl, hc⟩ := hc
    exact s_sipush hd hc (hK _ _ _ _ h)
  case lconst v =>
    dsimp only [xl] at hc
    simp [Nat.beq_eq] at hc
    subst hc
    exact s_lconst hd (hK _ _ _ _ h)
  case ldc2_w x =>
    dsimp only [st1, xl] at hc h
    rw [Bool.and_eq_true, Nat.beq_eq] at hc
    obtain ⟨hlen, hc⟩ := hc
    subst hlen
    split at h
    · rename_i q hq
      rw [hq] at hc
      simp only [Bool.and_eq_true, Nat.beq_eq] at hc
      exact s_ldc2 hd (List.mem_of_getElem? hq) hc.1 hc.2 (hK _ _ _ _ h)
    · exact h.elim
  case ldc_w x =>
    dsimp only [st1, xl] at hc h
    rw [Bool.and_eq_true, Nat.beq_eq] at hc
    obtain ⟨hlen, hc⟩ := hc
    subst hlen
    split at h
    · rename_i q hq
      rw [hq] at hc
      simp only [Bool.and_eq_true, Nat.beq_eq] at hc
      exact s_ldcw hd (List.mem_of_getElem? hq) hc.1 hc.2 (hK _ _ _ _ h)
    · exact h.elim
  case ldc x =>
    dsimp only [st1, xl] at hc h
    rw [Bool.and_eq_true, Nat.beq_eq] at hc
    obtain ⟨hlen, hc⟩ := hc
    subst hlen
    split at h
    · rename_i q hq
      rw [hq] at hc
      simp only [Bool.and_eq_true, Nat.beq_eq] at hc
      exact s_ldc hd (List.mem_of_getElem? hq) hc.1 hc.2 (hK _ _ _ _ h)
    · exact h.elim
  case iload x =>
    dsimp only [xl] at hc
    simp [Nat.beq_eq] at hc
    subst hc
    obtain ⟨v, e, h⟩ := ldI_inv h
    exact s_iload hd e (hK _ _ _ _ h)
  case iload_n x =>
    dsimp only [xl] at hc
    simp [Nat.beq_eq] at hc
    subst hc
    obtain ⟨v, e, h⟩ := ldI_inv h
    exact s_iload_n hd e (hK _ _ _ _ h)
  case lload x =>
    dsimp only [xl] at hc
    simp [Nat.beq_eq] at hc
    subst hc
    obtain ⟨v, e, h⟩ := ldL_inv h
    exact s_lload hd e (hK _ _ _ _ h)
  case lload_n x =>
    dsimp only [xl] at hc
    simp [Nat.beq_eq] at hc
    subst hc
    obtain ⟨v, e, h⟩ := ldL_inv h
    exact s_lload_n hd e (hK _ _ _ _ h)
  case aload x =>
    dsimp only [xl] at hc
    simp [Nat.beq_eq] at hc
    subst hc
    obtain ⟨v1, v2, e, h⟩ := ldR_inv h
    exact s_aload (v := (v1, v2)) hd e (hK _ _ _ _ h)
  case istore x =>
    dsimp only [xl] at hc
    simp [Nat.beq_eq] at hc
    subst hc
    replace h := t1I_inv h
    obtain ⟨v, r, rfl, h⟩ := h
    obtain ⟨e1, e2, h⟩ := sto_inv h
    exact s_istore hd e1 e2 (hK _ _ _ _ h)
  case astore x =>
    dsimp only [xl] at hc
    simp [Nat.beq_eq] at hc
    subst hc
    replace h := t1R_inv h
    obtain ⟨v1, v2, r, rfl, h⟩ := h
    obtain ⟨e1, e2, h⟩ := sto_inv h
    exact s_astore (v := (v1, v2)) hd e1 e2 (hK _ _ _ _ h)
  case aload_n x =>
    dsimp only [xl] at hc
    simp [Nat.beq_eq] at hc
    subst hc
    obtain ⟨v1, v2, e, h⟩ := ldR_inv h
    exact s_aload_n (v := (v1, v2)) hd e (hK _ _ _ _ h)
  case istore_n x =>
    dsimp only [xl] at hc
    simp [Nat.beq_eq] at hc
    subst hc
    replace h := t1I_inv h
    obtain ⟨v, r, rfl, h⟩ := h
    obtain ⟨e1, e2, h⟩ := sto_inv h
    exact s_istore_n hd e1 e2 (hK _ _ _ _ h)
  case astore_n x =>
    dsimp only [xl] at hc
    simp [Nat.beq_eq] at hc
    subst hc
    replace h := t1R_inv h
    obtain ⟨v1, v2, r, rfl, h⟩ := h
    obtain ⟨e1, e2, h⟩ := sto_inv h
    exact s_astore_n (v := (v1, v2)) hd e1 e2 (hK _ _ _ _ h)
  case lstore_n x =>
    dsimp only [xl] at hc
    simp [Nat.beq_eq] at hc
    subst hc
    replace h := t1L_inv h
    obtain ⟨v, r, rfl, h⟩ := h
    obtain ⟨e1, e2, h⟩ := sto2_inv h
    exact s_lstore_n hd e1 e2 (hK _ _ _ _ h)
  case lstore x =>
    dsimp only [xl] at hc
    simp [Nat.beq_eq] at hc
    subst hc
    replace h := t1L_inv h
    obtain ⟨v, r, rfl, h⟩ := h
    obtain ⟨e1, e2, h⟩ := sto2_inv h
    exact s_lstore hd e1 e2 (hK _ _ _ _ h)
  case iinc x q =>
    dsimp only [xl] at hc
    simp [Nat.beq_eq] at hc
    subst hc
    obtain ⟨v, e, h⟩ := ldI_inv h
    obtain ⟨e1, e2, h⟩ := sto_inv h
    exact s_iinc hd e e1 e2 (hK _ _ _ _ h)
  case dup =>
    dsimp only [xl] at hc
    simp [Nat.beq_eq] at hc
    subst hc
    dsimp only [st1] at h
    split at h
    · exact s_dupI hd (hK _ _ _ _ h)
    · exact s_dupR hd (hK _ _ _ _ h)
    · exact h.elim
  case dup2 =>
    dsimp only [xl] at hc
    simp [Nat.beq_eq] at hc
    subst hc
    replace h := t1I_inv h
    obtain ⟨v, r, rfl, h⟩ := h
    replace h := t1R_inv h
    obtain ⟨a1, b1, r, rfl, h⟩ := h
    exact s_dup2 hd (hK _ _ _ _ h)
  case iadd =>
    dsimp only [xl] at hc
    simp [Nat.beq_eq] at hc
    subst hc
    replace h := t1I_inv h
    obtain ⟨y, r, rfl, h⟩ := h
    obtain ⟨x, r, rfl, h⟩ := t1I_inv h
    exact s_iadd hd (hK _ _ _ _ h)
  case isub =>
    dsimp only [xl] at hc
    simp [Nat.beq_eq] at hc
    subst hc
    replace h := t1I_inv h
    obtain ⟨y, r, rfl, h⟩ := h
    obtain ⟨x, r, rfl, h⟩ := t1I_inv h
    exact s_isub hd (hK _ _ _ _ h)
  case imul =>
    dsimp only [xl] at hc
    simp [Nat.beq_eq] at hc
    subst hc
    replace h := t1I_inv h
    obtain ⟨y, r, rfl, h⟩ := h
    obtain ⟨x, r, rfl, h⟩ := t1I_inv h
    exact s_imul hd (hK _ _ _ _ h)
  case iand =>
    dsimp only [xl] at hc
    simp [Nat.beq_eq] at hc
    subst hc
    replace h := t1I_inv h
    obtain ⟨y, r, rfl, h⟩ := h
    obtain ⟨x, r, rfl, h⟩ := t1I_inv h
    exact s_iand hd (hK _ _ _ _ h)
  case ixor =>
    dsimp only [xl] at hc
    simp [Nat.beq_eq] at hc
    subst hc
    replace h := t1I_inv h
    obtain ⟨y, r, rfl, h⟩ := h
    obtain ⟨x, r, rfl, h⟩ := t1I_inv h
    exact s_ixor hd (hK _ _ _ _ h)
  case iushr =>
    dsimp only [xl] at hc
    simp [Nat.beq_eq] at hc
    subst hc
    replace h := t1I_inv h
    obtain ⟨y, r, rfl, h⟩ := h
    obtain ⟨x, r, rfl, h⟩ := t1I_inv h
    exact s_iushr hd (hK _ _ _ _ h)
  case idiv =>
    dsimp only [xl] at hc
    simp [Nat.beq_eq] at hc
    subst hc
    replace h := t1I_inv h
    obtain ⟨y, r, rfl, h⟩ := h
    obtain ⟨x, r, rfl, h⟩ := t1I_inv h
    exact s_idiv hd h.1 (hK _ _ _ _ h.2)
  case irem =>
    dsimp only [xl] at hc
    simp [Nat.beq_eq] at hc
    subst hc
    replace h := t1I_inv h
    obtain ⟨y, r, rfl, h⟩ := h
    obtain ⟨x, r, rfl, h⟩ := t1I_inv h
    exact s_irem hd h.1 (hK _ _ _ _ h.2)
  case lsub =>
    dsimp only [xl] at hc
    simp [Nat.beq_eq] at hc
    subst hc
    replace h := t1L_inv h
    obtain ⟨y, r, rfl, h⟩ := h
    obtain ⟨x, r, rfl, h⟩ := t1L_inv h
    exact s_lsub hd (hK _ _ _ _ h)
  case land =>
    dsimp only [xl] at hc
    simp [Nat.beq_eq] at hc
    subst hc
    replace h := t1L_inv h
    obtain ⟨y, r, rfl, h⟩ := h
    obtain ⟨x, r, rfl, h⟩ := t1L_inv h
    exact s_land hd (hK _ _ _ _ h)
  case lor =>
    dsimp only [xl] at hc
    simp [Nat.beq_eq] at hc
    subst hc
    replace h := t1L_inv h
    obtain ⟨y, r, rfl, h⟩ := h
    obtain ⟨x, r, rfl, h⟩ := t1L_inv h
    exact s_lor hd (hK _ _ _ _ h)
  case lxor =>
    dsimp only [xl] at hc
    simp [Nat.beq_eq] at hc
    subst hc
    replace h := t1L_inv h
    obtain ⟨y, r, rfl, h⟩ := h
    obtain ⟨x, r, rfl, h⟩ := t1L_inv h
    exact s_lxor hd (hK _ _ _ _ h)
  case lcmp =>
    dsimp only [xl] at hc
    simp [Nat.beq_eq] at hc
    subst hc
    replace h := t1L_inv h
    obtain ⟨y, r, rfl, h⟩ := h
    obtain ⟨x, r, rfl, h⟩ := t1L_inv h
    exact s_lcmp hd (hK _ _ _ _ h)
  case lshl =>
    dsimp only [xl] at hc
    simp [Nat.beq_eq] at hc
    subst hc
    replace h := t1I_inv h
    obtain ⟨y, r, rfl, h⟩ := h
    obtain ⟨x, r, rfl, h⟩ := t1L_inv h
    exact s_lshl hd (hK _ _ _ _ h)
  case lushr =>
    dsimp only [xl] at hc
    simp [Nat.beq_eq] at hc
    subst hc
    replace h := t1I_inv h
    obtain ⟨y, r, rfl, h⟩ := h
    obtain ⟨x, r, rfl, h⟩ := t1L_inv h
    exact s_lushr hd (hK _ _ _ _ h)
  case ishr =>
    dsimp only [xl] at hc
    simp [Nat.beq_eq] at hc
    subst hc
    replace h := t1I_inv h
    obtain ⟨y, r, rfl, h⟩ := h
    obtain ⟨x, r, rfl, h⟩ := t1I_inv h
    exact s_ishr hd (hK _ _ _ _ h)
  case ladd =>
    dsimp only [xl] at hc
    simp [Nat.beq_eq] at hc
    subst hc
    replace h := t1L_inv h
    obtain ⟨y, r, rfl, h⟩ := h
    obtain ⟨x, r, rfl, h⟩ := t1L_inv h
    exact s_ladd hd (hK _ _ _ _ h)
  case lmul =>
    dsimp only [xl] at hc
    simp [Nat.beq_eq] at hc
    subst hc
    replace h := t1L_inv h
    obtain ⟨y, r, rfl, h⟩ := h
    obtain ⟨x, r, rfl, h⟩ := t1L_inv h
    exact s_lmul hd (hK _ _ _ _ h)
  case i2l =>
    dsimp only [xl] at hc
    simp [Nat.beq_eq] at hc
    subst hc
    replace h := t1I_inv h
    obtain ⟨x, r, rfl, h⟩ := h
    exact s_i2l hd (hK _ _ _ _ h)
  case i2b =>
    dsimp only [xl] at hc
    simp [Nat.beq_eq] at hc
    subst hc
    replace h := t1I_inv h
    obtain ⟨x, r, rfl, h⟩ := h
    exact s_i2b hd (hK _ _ _ _ h)
  case l2i =>
    dsimp only [xl] at hc
    simp [Nat.beq_eq] at hc
    subst hc
    replace h := t1L_inv h
    obtain ⟨x, r, rfl, h⟩ := h
    exact s_l2i hd (hK _ _ _ _ h)
  case getfield x =>
    dsimp only [xl] at hc
    simp [Nat.beq_eq] at hc
    obtain ⟨rfl, hl⟩ := hc
    replace h := t1R_inv h
    obtain ⟨kd, pp, r, rfl, h⟩ := h
    obtain ⟨e, h⟩ := bo_inv h
    simp only [Bool.and_eq_true, Nat.beq_eq] at e
    split at h
    · rename_i v hv
      exact s_getfield hd hl e.1 e.2 hv (hK _ _ _ _ h)
    · exact h.elim
  case putfield x =>
    dsimp only [xl] at hc
    simp [Nat.beq_eq] at hc
    obtain ⟨rfl, hl⟩ := hc
    dsimp only [st1] at h
    split at h
    · replace h := t1R_inv h
      obtain ⟨kd, pp, r, rfl, h⟩ := h
      obtain ⟨e, h⟩ := bo_inv h
      simp only [Bool.and_eq_true, Nat.beq_eq] at e
      exact s_putI hd hl e.1 e.2 (hK _ _ _ _ h)
    · replace h := t1R_inv h
      obtain ⟨kd, pp, r, rfl, h⟩ := h
      obtain ⟨e, h⟩ := bo_inv h
      simp only [Bool.and_eq_true, Nat.beq_eq] at e
      obtain ⟨⟨rfl, rfl⟩, rfl⟩ := e
      obtain ⟨rfl, h2⟩ := h
      exact s_putL hd hl (hK _ _ _ _ h2)
    · exact h.elim
  case iaload =>
    dsimp only [xl] at hc
    simp [Nat.beq_eq] at hc
    subst hc
    replace h := t1I_inv h
    obtain ⟨j, r, rfl, h⟩ := h
    replace h := t1R_inv h
    obtain ⟨kd, pp, r, rfl, h⟩ := h
    obtain ⟨e, h⟩ := bo_inv h
    simp only [Bool.or_eq_true, Nat.beq_eq] at e
    rcases e with e | rfl
    · have ha : aln m kd = alen kd := by
        unfold aln
        split
        · cases e
        · rfl
      exact s_iaload hd e (by rw [← ha]; exact h.1) (hK _ _ _ _ h.2)
    · exact s_sload hd h.1 (hK _ _ _ _ h.2)
  case baload =>
    dsimp only [xl] at hc
    simp [Nat.beq_eq] at hc
    subst hc
    replace h := t1I_inv h
    obtain ⟨j, r, rfl, h⟩ := h
    replace h := t1R_inv h
    obtain ⟨kd, pp, r, rfl, h⟩ := h
    obtain ⟨e, h⟩ := bo_inv h
    simp only [Bool.or_eq_true, Nat.beq_eq] at e
    rcases e with e | e
    · exact s_zaload hd e h.1 (hK _ _ _ _ h.2)
    · exact s_baload hd e h.1 (hK _ _ _ _ h.2)
  case laload =>
    dsimp only [xl] at hc
    simp [Nat.beq_eq] at hc
    subst hc
    replace h := t1I_inv h
    obtain ⟨j, r, rfl, h⟩ := h
    replace h := t1R_inv h
    obtain ⟨kd, pp, r, rfl, h⟩ := h
    obtain ⟨e, h⟩ := bo_inv h
    simp only [Nat.beq_eq] at e
    exact s_laload hd e h.1 (hK _ _ _ _ h.2)
  case aaload =>
    dsimp only [xl] at hc
    simp [Nat.beq_eq] at hc
    subst hc
    replace h := t1I_inv h
    obtain ⟨j, r, rfl, h⟩ := h
    replace h := t1R_inv h
    obtain ⟨kd, pp, r, rfl, h⟩ := h
    obtain ⟨e, h⟩ := bo_inv h
    simp only [Nat.beq_eq] at e
    subst e
    exact s_aaload hd h.1 (hK _ _ _ _ h.2)
  case iastore =>
    dsimp only [xl] at hc
    simp [Nat.beq_eq] at hc
    subst hc
    obtain ⟨v, r, rfl, h⟩ := t1I_inv h
    replace h := t1I_inv h
    obtain ⟨j, r, rfl, h⟩ := h
    replace h := t1R_inv h
    obtain ⟨kd, pp, r, rfl, h⟩ := h
    obtain ⟨e, h⟩ := bo_inv h
    simp only [Nat.beq_eq] at e
    exact s_iastore hd e h.1 (hK _ _ _ _ h.2)
  case bastore =>
    dsimp only [xl] at hc
    simp [Nat.beq_eq] at hc
    subst hc
    obtain ⟨v, r, rfl, h⟩ := t1I_inv h
    replace h := t1I_inv h
    obtain ⟨j, r, rfl, h⟩ := h
    replace h := t1R_inv h
    obtain ⟨kd, pp, r, rfl, h⟩ := h
    obtain ⟨e, h⟩ := bo_inv h
    simp only [Bool.or_eq_true, Nat.beq_eq] at e
    rcases e with e | e
    · rw [e] at h
      exact s_zastore hd e h.1 h.2.1 (hK _ _ _ _ h.2.2)
    · rw [e] at h
      exact s_bastore hd e h.1 h.2.1 (hK _ _ _ _ h.2.2)
  case lastore =>
    dsimp only [xl] at hc
    simp [Nat.beq_eq] at hc
    subst hc
    obtain ⟨v, r, rfl, h⟩ := t1L_inv h
    replace h := t1I_inv h
    obtain ⟨j, r, rfl, h⟩ := h
    replace h := t1R_inv h
    obtain ⟨kd, pp, r, rfl, h⟩ := h
    obtain ⟨e, h⟩ := bo_inv h
    simp only [Nat.beq_eq] at e
    exact s_lastore hd e h.1 (hK _ _ _ _ h.2)
  case aastore =>
    dsimp only [xl] at hc
    simp [Nat.beq_eq] at hc
    subst hc
    obtain ⟨kq, q, r, rfl, h⟩ := t1R_inv h
    replace h := t1I_inv h
    obtain ⟨j, r, rfl, h⟩ := h
    replace h := t1R_inv h
    obtain ⟨kd, pp, r, rfl, h⟩ := h
    obtain ⟨e, h⟩ := bo_inv h
    simp only [Bool.and_eq_true, Nat.beq_eq] at e
    obtain ⟨rfl, rfl⟩ := e
    exact s_aastore hd h.1 (hK _ _ _ _ h.2)
  case arraylength =>
    dsimp only [xl] at hc
    simp [Nat.beq_eq] at hc
    subst hc
    replace h := t1R_inv h
    obtain ⟨kd, pp, r, rfl, h⟩ := h
    obtain ⟨e, h⟩ := bo_inv h
    rw [Bool.and_eq_true, Bool.not_eq_true', Bool.not_eq_true'] at e
    exact s_alen hd (fun q => by rw [q] at e; exact absurd e.1 (by decide)) (fun q => by rw [q] at e; exact absurd e.2 (by decide)) (hK _ _ _ _ h)
  case goto f =>
    dsimp only [xl] at hc
    simp [Nat.beq_eq] at hc
    obtain ⟨rfl, ht⟩ := hc
    exact s_goto hd ht h
  case ifCond cc f =>
    dsimp only [xl] at hc
    simp [Nat.beq_eq] at hc
    obtain ⟨rfl, ht⟩ := hc
    replace h := t1I_inv h
    obtain ⟨x, r, rfl, h⟩ := h
    exact s_if hd ht h.1 h.2.1 (fun q => hK _ _ _ _ (h.2.2 q))
  case if_icmp cc f =>
    dsimp only [xl] at hc
    simp [Nat.beq_eq] at hc
    obtain ⟨rfl, ht⟩ := hc
    replace h := t1I_inv h
    obtain ⟨y, r, rfl, h⟩ := h
    obtain ⟨x, r, rfl, h⟩ := t1I_inv h
    exact s_icmp hd ht h.1.1 h.1.2 h.2.1 (fun q => hK _ _ _ _ (h.2.2 q))
  case tableswitch df lo hi os =>
    simp only [Bool.and_eq_true, decide_eq_true_eq] at hc
    replace h := t1I_inv h
    obtain ⟨x, r, rfl, h⟩ := h
    exact s_tsw hd hc.1.1 hc.1.2 hc.2 h.1 h.2.1 h.2.2
  case lookupswitch df ps =>
    rw [Bool.and_eq_true, Bool.and_eq_true, decide_eq_true_eq] at hc
    replace h := t1I_inv h
    obtain ⟨x, r, rfl, h⟩ := h
    exact s_lsw hd hc.1.1 hc.1.2 hc.2 h.1 h.2
  case ireturn =>
    dsimp only [st1] at h
    split at h
    · rename_i x
      refine s_ret (r := some (vi x)) ⟨?_, ?_⟩ h.2
      · rw [Bool.and_eq_true, Nat.beq_eq] at hc
        have hl : len = 1 := hc.1
        subst hl
        exact hd
      · rw [Bool.and_eq_true, Nat.beq_eq] at hc
        obtain ⟨-, hc⟩ := hc
        dsimp only at hc
        have h1 := h.1
        match a, hc, h1 with
        | 0, hc, _ => exact Or.inl (of_decide_eq_true hc)
        | a + 1, hc, h1 => exact Or.inr ⟨of_decide_eq_true hc, h1⟩
    · exact h.elim
  case lreturn =>
    dsimp only [xl] at hc
    simp [Nat.beq_eq] at hc
    obtain ⟨rfl, hc⟩ := hc
    dsimp only [st1] at h
    split at h
    · rename_i x
      exact s_ret (r := some (vl x)) ⟨hd, hc⟩ h
    · exact h.elim
  case return_ =>
    dsimp only [xl] at hc
    simp [Nat.beq_eq] at hc
    obtain ⟨rfl, hc⟩ := hc
    dsimp only [st1] at h
    split at h
    · exact s_ret (r := none) ⟨hd, hc⟩ h
    · exact h.elim
  case invokevirtual x =>
    dsimp only [xl] at hc
    simp only [Bool.and_eq_true, decide_eq_true_eq, List.contains_iff_mem, Nat.ble_eq, Nat.beq_eq] at hc
    obtain ⟨rfl, ⟨⟨⟨c1, c2⟩, c3⟩, c4⟩, c5⟩ := hc
    obtain ⟨d2, as, rest, e1, e2, e3, e4, e5, e6⟩ := callA_inv h
    dsimp only at c1 c2 c3 c4 c5 e2 e3 e6
    subst c3
    exact s_callV hd c1 c2 c4 c5 e1 e2 e3 e4 e5 (e6.mono (fun r m2 n2 q => hK _ _ _ _ q))
  case invokestatic x =>
    dsimp only [st1] at h
    dsimp only at hc
    rw [Bool.and_eq_true, Nat.beq_eq] at hc
    obtain ⟨hlen, hc⟩ := hc
    simp only [xl] at hlen
    subst hlen
    split at h
    · simp only [List.contains_iff_mem] at hc
      replace h := t1I_inv h
      obtain ⟨len, r, rfl, h⟩ := h
      replace h := t1I_inv h
      obtain ⟨dp, r, rfl, h⟩ := h
      replace h := t1R_inv h
      obtain ⟨kd, pd, r, rfl, h⟩ := h
      replace h := t1I_inv h
      obtain ⟨sp, r, rfl, h⟩ := h
      replace h := t1R_inv h
      obtain ⟨ks, ps, r, rfl, h⟩ := h
      obtain ⟨e, hh, h⟩ := bo_inv h
      simp only [Bool.and_eq_true, Bool.or_eq_true, Nat.beq_eq, Nat.ble_eq] at e
      split at h
      · exact h.elim
      · exact s_copy hd hc e.1.1 e.1.2 e.2 (by omega) hh (hK _ _ _ _ h)
    · simp only [List.contains_iff_mem] at hc
      replace h := t1I_inv h
      obtain ⟨y, r, rfl, h⟩ := h
      replace h := t1I_inv h
      obtain ⟨x, r, rfl, h⟩ := h
      obtain ⟨e, hh, h⟩ := bo_inv h
      simp only [Nat.ble_eq] at e
      split at h
      · exact h.elim
      · exact s_max hd hc e (by omega) hh.1 hh.2 (hK _ _ _ _ h)
    · simp only [List.contains_iff_mem] at hc
      replace h := t1I_inv h
      obtain ⟨j, r, rfl, h⟩ := h
      replace h := t1R_inv h
      obtain ⟨kd, pp, r, rfl, h⟩ := h
      replace h := bo_inv h
      obtain ⟨e, hh, h⟩ := h
      simp only [Bool.and_eq_true, Nat.beq_eq, Nat.ble_eq] at e
      obtain ⟨rfl, e⟩ := e
      split at h
      · exact h.elim
      · exact s_cell hd hc e (by omega) hh (hK _ _ _ _ h)
    · rename_i hne hne3 hne4
      obtain ⟨d2, as, rest, e1, e2, e3, e4, e5, e6⟩ := callA_inv h
      split at hc
      · exact absurd rfl hne
      · exact absurd rfl hne3
      · exact absurd rfl hne4
      · simp only [Bool.and_eq_true, Bool.or_eq_true, decide_eq_true_eq, List.contains_iff_mem, Nat.ble_eq] at hc
        obtain ⟨⟨⟨⟨rfl, c1⟩, c2⟩, c4⟩, c5⟩ := hc
        exact s_callN hd c1 c2 c4 c5 e1 e2 e4 e5 (e6.mono (fun r m2 n2 q => hK _ _ _ _ q))
      · simp only [Bool.and_eq_true, decide_eq_true_eq, List.contains_iff_mem, Nat.ble_eq] at hc
        obtain ⟨⟨⟨c1, c2⟩, c4⟩, c5⟩ := hc
        exact s_callS hd c1 c2 c4 c5 e1 e2 e4 e5 (e6.mono (fun r m2 n2 q => hK _ _ _ _ q))
theorem wp_ok {Γ : GG} {d k : Nat} {post : PO} : ∀ (is : List II) (pc : Nat) (ls : LV) (st : List AV) (m : MI) (n : ML), hasB k pc is = true → wp Γ d k post pc is ls st m n → AM Γ d k pc ls st m n post
  | [], pc, ls, st, m, n, _, h => h
  | i :: is, pc, ls, st, m, n, hc, h => by
    simp only [hasB, Bool.and_eq_true] at hc
    exact st1_ok hc.1 h (fun ls' st' m' n' q => wp_ok is _ ls' st' m' n' hc.2 q)
/-- a stretch, by its instructions -/
theorem blk {Γ : GG} {d k pc : Nat} {post : PO} {ls : LV} {st : List AV} {m : MI} {n : ML} (is : List II) (hc : hasB k pc is = true) (h : wp Γ d k post pc is ls st m n) : AM Γ d k pc ls st m n post := wp_ok is pc ls st m n hc h
