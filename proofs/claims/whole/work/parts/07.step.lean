theorem t1I_inv {st : List AV} {K : Int → List AV → Prop} (h : t1I st K) : ∃ x r, st = vi x :: r ∧ K x r := by
  unfold t1I at h
  split at h
  · exact ⟨_, _, rfl, h⟩
  · exact h.elim
theorem t1L_inv {st : List AV} {K : Int64 → List AV → Prop} (h : t1L st K) : ∃ x r, st = vl x :: r ∧ K x r := by
  unfold t1L at h
  split at h
  · exact ⟨_, _, rfl, h⟩
  · exact h.elim
theorem t1R_inv {st : List AV} {K : Nat → Int → List AV → Prop} (h : t1R st K) : ∃ a b r, st = vr a b :: r ∧ K a b r := by
  unfold t1R at h
  split at h
  · exact ⟨_, _, _, rfl, h⟩
  · exact h.elim
theorem ldI_inv {ls : LV} {x : Nat} {K : Int → Prop} (h : ldI ls x K) : ∃ v, ls.getD x none = some (vi v) ∧ K v := by
  unfold ldI at h
  split at h
  · rename_i v e; exact ⟨v, e, h⟩
  · exact h.elim
theorem ldL_inv {ls : LV} {x : Nat} {K : Int64 → Prop} (h : ldL ls x K) : ∃ v, ls.getD x none = some (vl v) ∧ K v := by
  unfold ldL at h
  split at h
  · rename_i v e; exact ⟨v, e, h⟩
  · exact h.elim
theorem ldR_inv {ls : LV} {x : Nat} {K : Nat → Int → Prop} (h : ldR ls x K) : ∃ a b, ls.getD x none = some (vr a b) ∧ K a b := by
  unfold ldR at h
  split at h
  · rename_i a b e; exact ⟨a, b, e, h⟩
  · exact h.elim
theorem sto_inv {ls : LV} {x : Nat} {v : AV} {K : LV → Prop} (h : sto ls x v K) : x < ls.length ∧ prevL ls x = false ∧ K (ls.set x (some v)) := by
  unfold sto at h
  split at h
  · rename_i e
    rw [Bool.and_eq_true] at e
    refine ⟨by have := e.1; simpa [Nat.blt_eq] using this, by simpa using e.2, h⟩
  · exact h.elim
theorem sto2_inv {ls : LV} {x : Nat} {v : Int64} {K : LV → Prop} (h : sto2 ls x v K) : x + 1 < ls.length ∧ prevL ls x = false ∧ K ((ls.set x (some (vl v))).set (x + 1) none) := by
  unfold sto2 at h
  split at h
  · rename_i e
    rw [Bool.and_eq_true] at e
    refine ⟨by have := e.1; simpa [Nat.blt_eq] using this, by simpa using e.2, h⟩
  · exact h.elim
theorem bo_inv {b : Bool} {P : Prop} (h : bo b P) : b = true ∧ P := by
  unfold bo at h
  split at h
  · exact ⟨rfl, h⟩
  · exact h.elim
theorem callA_inv {Γ : GG} {d k2 na : Nat} {ck : List AV → Bool} {ls : LV} {st : List AV} {m : MI} {n : ML} {K : LV → List AV → MI → ML → Prop} (h : callA Γ d k2 na ck ls st m n K) : ∃ d2 as rest, d = d2 + 1 ∧ popN na [] st = some (as, rest) ∧ ck as = true ∧ as.all noS = true ∧ catS rest ≤ 8 ∧ CM Γ d2 k2 as m n (fun r m2 n2 => K ls (r.toList ++ rest) m2 n2) := by
  unfold callA at h
  split at h
  · exact h.elim
  · rename_i d2
    split at h
    · exact h.elim
    · rename_i as rest e
      obtain ⟨h1, h2⟩ := bo_inv h
      simp only [Bool.and_eq_true, Nat.ble_eq] at h1
      exact ⟨d2, as, rest, rfl, e, h1.1.1, h1.1.2, h1.2, h2⟩
theorem CM.mono {Γ : GG} {d k : Nat} {as : List AV} {m : MI} {n : ML} {P P' : PO} (h : CM Γ d k as m n P) (hP : ∀ r m' n', P r m' n' → P' r m' n') : CM Γ d k as m n P' := by
  intro hG hV p e ha hc hk s mm args below hf happ hpre htr
  obtain ⟨t, o, h1, h2, h3, ⟨⟨⟨r, m', n', g1, g2, g3⟩, g4⟩, g5⟩⟩ := h hG hV p e ha hc hk s mm args below hf happ hpre htr
  exact ⟨t, o, h1, h2, h3, ⟨⟨⟨r, m', n', g1, hP _ _ _ g2, g3⟩, g4⟩, g5⟩⟩
set_option maxHeartbeats 4000000 in
theorem st1_ok {Γ : GG} {d k pc : Nat} {post : PO} {i : II} {ls : LV} {st : List AV} {m : MI} {n : ML} {K : LV → List AV → MI → ML → Prop} (hc : chk k pc i = true) (h : st1 Γ d k post i pc ls st m n K)
    (hK : ∀ ls' st' m' n', K ls' st' m' n' → AM Γ d k (pc + i.2.1) ls' st' m' n' post) : AM Γ d k pc ls st m n post := by
  obtain ⟨ins, len, a, b, cs⟩ := i
  unfold chk at hc
  rw [Bool.and_eq_true, decide_eq_true_eq] at hc
  obtain ⟨hd, hc⟩ := hc
  cases ins <;> (try exact h.elim)
  case iconst v =>
    dsimp only [xl] at hc
    simp [Nat.beq_eq] at hc
    subst hc
    exact s_iconst hd (hK _ _ _ _ h)
  case bipush v =>
    dsimp only [xl] at hc
    simp [Nat.beq_eq] at hc
    obtain ⟨rfl, hc⟩ := hc
    exact s_bipush hd hc (hK _ _ _ _ h)
  case sipush v =>
    dsimp only [xl] at hc
    simp [Nat.beq_eq] at hc
    obtain ⟨rfl, hc⟩ := hc
    exact s_sipush hd hc (hK _ _ _ _ h)
  case lconst v =>
    dsimp only [xl] at hc
    simp [Nat.beq_eq] at hc
    subst hc
    exact s_lconst hd (hK _ _ _ _ h)
  case ldc2_w x =>
    dsimp only [xl] at hc
    simp [Nat.beq_eq] at hc
    obtain ⟨rfl, h1, h2⟩ := hc
    exact s_ldc2 hd h1 h2 (hK _ _ _ _ h)
  case ldc_w x =>
    dsimp only [xl] at hc
    simp [Nat.beq_eq] at hc
    obtain ⟨rfl, h1, h2⟩ := hc
    exact s_ldcw hd h1 h2 (hK _ _ _ _ h)
  case iload x =>
    dsimp only [xl] at hc
    simp [Nat.beq_eq] at hc
    subst hc
    obtain ⟨v, e, h⟩ := ldI_inv h
    exact s_iload hd e (hK _ _ _ _ h)
  case iload_n x =>
    dsimp only [xl] at hc
    simp [Nat.beq_eq] at hc
    subst hc
    obtain ⟨v, e, h⟩ := ldI_inv h
    exact s_iload_n hd e (hK _ _ _ _ h)
  case lload x =>
    dsimp only [xl] at hc
    simp [Nat.beq_eq] at hc
    subst hc
    obtain ⟨v, e, h⟩ := ldL_inv h
    exact s_lload hd e (hK _ _ _ _ h)
  case lload_n x =>
    dsimp only [xl] at hc
    simp [Nat.beq_eq] at hc
    subst hc
    obtain ⟨v, e, h⟩ := ldL_inv h
    exact s_lload_n hd e (hK _ _ _ _ h)
  case aload x =>
    dsimp only [xl] at hc
    simp [Nat.beq_eq] at hc
    subst hc
    obtain ⟨v1, v2, e, h⟩ := ldR_inv h
    exact s_aload (v := (v1, v2)) hd e (hK _ _ _ _ h)
  case istore x =>
    dsimp only [xl] at hc
    simp [Nat.beq_eq] at hc
    subst hc
    replace h := t1I_inv h
    obtain ⟨v, r, rfl, h⟩ := h
    obtain ⟨e1, e2, h⟩ := sto_inv h
    exact s_istore hd e1 e2 (hK _ _ _ _ h)
  case astore x =>
    dsimp only [xl] at hc
    simp [Nat.beq_eq] at hc
    subst hc
    replace h := t1R_inv h
    obtain ⟨v1, v2, r, rfl, h⟩ := h
    obtain ⟨e1, e2, h⟩ := sto_inv h
    exact s_astore (v := (v1, v2)) hd e1 e2 (hK _ _ _ _ h)
  case aload_n x =>
    dsimp only [xl] at hc
    simp [Nat.beq_eq] at hc
    subst hc
    obtain ⟨v1, v2, e, h⟩ := ldR_inv h
    exact s_aload_n (v := (v1, v2)) hd e (hK _ _ _ _ h)
  case istore_n x =>
    dsimp only [xl] at hc
    simp [Nat.beq_eq] at hc
    subst hc
    replace h := t1I_inv h
    obtain ⟨v, r, rfl, h⟩ := h
    obtain ⟨e1, e2, h⟩ := sto_inv h
    exact s_istore_n hd e1 e2 (hK _ _ _ _ h)
  case astore_n x =>
    dsimp only [xl] at hc
    simp [Nat.beq_eq] at hc
    subst hc
    replace h := t1R_inv h
    obtain ⟨v1, v2, r, rfl, h⟩ := h
    obtain ⟨e1, e2, h⟩ := sto_inv h
    exact s_astore_n (v := (v1, v2)) hd e1 e2 (hK _ _ _ _ h)
  case lstore x =>
    dsimp only [xl] at hc
    simp [Nat.beq_eq] at hc
    subst hc
    replace h := t1L_inv h
    obtain ⟨v, r, rfl, h⟩ := h
    obtain ⟨e1, e2, h⟩ := sto2_inv h
    exact s_lstore hd e1 e2 (hK _ _ _ _ h)
  case iinc x q =>
    dsimp only [xl] at hc
    simp [Nat.beq_eq] at hc
    subst hc
    obtain ⟨v, e, h⟩ := ldI_inv h
    obtain ⟨e1, e2, h⟩ := sto_inv h
    exact s_iinc hd e e1 e2 (hK _ _ _ _ h)
  case dup =>
    dsimp only [xl] at hc
    simp [Nat.beq_eq] at hc
    subst hc
    dsimp only [st1] at h
    split at h
    · exact s_dupI hd (hK _ _ _ _ h)
    · exact s_dupR hd (hK _ _ _ _ h)
    · exact h.elim
  case dup2 =>
    dsimp only [xl] at hc
    simp [Nat.beq_eq] at hc
    subst hc
    replace h := t1I_inv h
    obtain ⟨v, r, rfl, h⟩ := h
    replace h := t1R_inv h
    obtain ⟨a1, b1, r, rfl, h⟩ := h
    exact s_dup2 hd (hK _ _ _ _ h)
  case iadd =>
    dsimp only [xl] at hc
    simp [Nat.beq_eq] at hc
    subst hc
    replace h := t1I_inv h
    obtain ⟨y, r, rfl, h⟩ := h
    obtain ⟨x, r, rfl, h⟩ := t1I_inv h
    exact s_iadd hd (hK _ _ _ _ h)
  case isub =>
    dsimp only [xl] at hc
    simp [Nat.beq_eq] at hc
    subst hc
    replace h := t1I_inv h
    obtain ⟨y, r, rfl, h⟩ := h
    obtain ⟨x, r, rfl, h⟩ := t1I_inv h
    exact s_isub hd (hK _ _ _ _ h)
  case imul =>
    dsimp only [xl] at hc
    simp [Nat.beq_eq] at hc
    subst hc
    replace h := t1I_inv h
    obtain ⟨y, r, rfl, h⟩ := h
    obtain ⟨x, r, rfl, h⟩ := t1I_inv h
    exact s_imul hd (hK _ _ _ _ h)
  case iand =>
    dsimp only [xl] at hc
    simp [Nat.beq_eq] at hc
    subst hc
    replace h := t1I_inv h
    obtain ⟨y, r, rfl, h⟩ := h
    obtain ⟨x, r, rfl, h⟩ := t1I_inv h
    exact s_iand hd (hK _ _ _ _ h)
  case ixor =>
    dsimp only [xl] at hc
    simp [Nat.beq_eq] at hc
    subst hc
    replace h := t1I_inv h
    obtain ⟨y, r, rfl, h⟩ := h
    obtain ⟨x, r, rfl, h⟩ := t1I_inv h
    exact s_ixor hd (hK _ _ _ _ h)
  case iushr =>
    dsimp only [xl] at hc
    simp [Nat.beq_eq] at hc
    subst hc
    replace h := t1I_inv h
    obtain ⟨y, r, rfl, h⟩ := h
    obtain ⟨x, r, rfl, h⟩ := t1I_inv h
    exact s_iushr hd (hK _ _ _ _ h)
  case idiv =>
    dsimp only [xl] at hc
    simp [Nat.beq_eq] at hc
    subst hc
    replace h := t1I_inv h
    obtain ⟨y, r, rfl, h⟩ := h
    obtain ⟨x, r, rfl, h⟩ := t1I_inv h
    exact s_idiv hd h.1 (hK _ _ _ _ h.2)
  case irem =>
    dsimp only [xl] at hc
    simp [Nat.beq_eq] at hc
    subst hc
    replace h := t1I_inv h
    obtain ⟨y, r, rfl, h⟩ := h
    obtain ⟨x, r, rfl, h⟩ := t1I_inv h
    exact s_irem hd h.1 (hK _ _ _ _ h.2)
  case lsub =>
    dsimp only [xl] at hc
    simp [Nat.beq_eq] at hc
    subst hc
    replace h := t1L_inv h
    obtain ⟨y, r, rfl, h⟩ := h
    obtain ⟨x, r, rfl, h⟩ := t1L_inv h
    exact s_lsub hd (hK _ _ _ _ h)
  case land =>
    dsimp only [xl] at hc
    simp [Nat.beq_eq] at hc
    subst hc
    replace h := t1L_inv h
    obtain ⟨y, r, rfl, h⟩ := h
    obtain ⟨x, r, rfl, h⟩ := t1L_inv h
    exact s_land hd (hK _ _ _ _ h)
  case lor =>
    dsimp only [xl] at hc
    simp [Nat.beq_eq] at hc
    subst hc
    replace h := t1L_inv h
    obtain ⟨y, r, rfl, h⟩ := h
    obtain ⟨x, r, rfl, h⟩ := t1L_inv h
    exact s_lor hd (hK _ _ _ _ h)
  case lxor =>
    dsimp only [xl] at hc
    simp [Nat.beq_eq] at hc
    subst hc
    replace h := t1L_inv h
    obtain ⟨y, r, rfl, h⟩ := h
    obtain ⟨x, r, rfl, h⟩ := t1L_inv h
    exact s_lxor hd (hK _ _ _ _ h)
  case lcmp =>
    dsimp only [xl] at hc
    simp [Nat.beq_eq] at hc
    subst hc
    replace h := t1L_inv h
    obtain ⟨y, r, rfl, h⟩ := h
    obtain ⟨x, r, rfl, h⟩ := t1L_inv h
    exact s_lcmp hd (hK _ _ _ _ h)
  case lshl =>
    dsimp only [xl] at hc
    simp [Nat.beq_eq] at hc
    subst hc
    replace h := t1I_inv h
    obtain ⟨y, r, rfl, h⟩ := h
    obtain ⟨x, r, rfl, h⟩ := t1L_inv h
    exact s_lshl hd (hK _ _ _ _ h)
  case lushr =>
    dsimp only [xl] at hc
    simp [Nat.beq_eq] at hc
    subst hc
    replace h := t1I_inv h
    obtain ⟨y, r, rfl, h⟩ := h
    obtain ⟨x, r, rfl, h⟩ := t1L_inv h
    exact s_lushr hd (hK _ _ _ _ h)
  case i2b =>
    dsimp only [xl] at hc
    simp [Nat.beq_eq] at hc
    subst hc
    replace h := t1I_inv h
    obtain ⟨x, r, rfl, h⟩ := h
    exact s_i2b hd (hK _ _ _ _ h)
  case l2i =>
    dsimp only [xl] at hc
    simp [Nat.beq_eq] at hc
    subst hc
    replace h := t1L_inv h
    obtain ⟨x, r, rfl, h⟩ := h
    exact s_l2i hd (hK _ _ _ _ h)
  case getfield x =>
    dsimp only [xl] at hc
    simp [Nat.beq_eq] at hc
    obtain ⟨rfl, hl⟩ := hc
    replace h := t1R_inv h
    obtain ⟨kd, pp, r, rfl, h⟩ := h
    obtain ⟨e, h⟩ := bo_inv h
    simp only [Bool.and_eq_true, Nat.beq_eq] at e
    split at h
    · rename_i v hv
      exact s_getfield hd hl e.1 e.2 hv (hK _ _ _ _ h)
    · exact h.elim
  case putfield x =>
    dsimp only [xl] at hc
    simp [Nat.beq_eq] at hc
    obtain ⟨rfl, hl⟩ := hc
    dsimp only [st1] at h
    split at h
    · replace h := t1R_inv h
      obtain ⟨kd, pp, r, rfl, h⟩ := h
      obtain ⟨e, h⟩ := bo_inv h
      simp only [Bool.and_eq_true, Nat.beq_eq] at e
      exact s_putI hd hl e.1 e.2 (hK _ _ _ _ h)
    · replace h := t1R_inv h
      obtain ⟨kd, pp, r, rfl, h⟩ := h
      obtain ⟨e, h⟩ := bo_inv h
      simp only [Bool.and_eq_true, Nat.beq_eq] at e
      obtain ⟨⟨rfl, rfl⟩, rfl⟩ := e
      obtain ⟨rfl, h2⟩ := h
      exact s_putL hd hl (hK _ _ _ _ h2)
    · exact h.elim
  case iaload =>
    dsimp only [xl] at hc
    simp [Nat.beq_eq] at hc
    subst hc
    replace h := t1I_inv h
    obtain ⟨j, r, rfl, h⟩ := h
    replace h := t1R_inv h
    obtain ⟨kd, pp, r, rfl, h⟩ := h
    obtain ⟨e, h⟩ := bo_inv h
    simp only [Bool.or_eq_true, Nat.beq_eq] at e
    rcases e with e | rfl
    · have ha : aln m kd = alen kd := by
        unfold aln
        split
        · cases e
        · rfl
      exact s_iaload hd e (by rw [← ha]; exact h.1) (hK _ _ _ _ h.2)
    · exact s_sload hd h.1 (hK _ _ _ _ h.2)
  case baload =>
    dsimp only [xl] at hc
    simp [Nat.beq_eq] at hc
    subst hc
    replace h := t1I_inv h
    obtain ⟨j, r, rfl, h⟩ := h
    replace h := t1R_inv h
    obtain ⟨kd, pp, r, rfl, h⟩ := h
    obtain ⟨e, h⟩ := bo_inv h
    simp only [Bool.or_eq_true, Nat.beq_eq] at e
    rcases e with e | e
    · exact s_zaload hd e h.1 (hK _ _ _ _ h.2)
    · exact s_baload hd e h.1 (hK _ _ _ _ h.2)
  case laload =>
    dsimp only [xl] at hc
    simp [Nat.beq_eq] at hc
    subst hc
    replace h := t1I_inv h
    obtain ⟨j, r, rfl, h⟩ := h
    replace h := t1R_inv h
    obtain ⟨kd, pp, r, rfl, h⟩ := h
    obtain ⟨e, h⟩ := bo_inv h
    simp only [Nat.beq_eq] at e
    exact s_laload hd e h.1 (hK _ _ _ _ h.2)
  case aaload =>
    dsimp only [xl] at hc
    simp [Nat.beq_eq] at hc
    subst hc
    replace h := t1I_inv h
    obtain ⟨j, r, rfl, h⟩ := h
    replace h := t1R_inv h
    obtain ⟨kd, pp, r, rfl, h⟩ := h
    obtain ⟨e, h⟩ := bo_inv h
    simp only [Nat.beq_eq] at e
    subst e
    exact s_aaload hd h.1 (hK _ _ _ _ h.2)
  case iastore =>
    dsimp only [xl] at hc
    simp [Nat.beq_eq] at hc
    subst hc
    obtain ⟨v, r, rfl, h⟩ := t1I_inv h
    replace h := t1I_inv h
    obtain ⟨j, r, rfl, h⟩ := h
    replace h := t1R_inv h
    obtain ⟨kd, pp, r, rfl, h⟩ := h
    obtain ⟨e, h⟩ := bo_inv h
    simp only [Nat.beq_eq] at e
    exact s_iastore hd e h.1 (hK _ _ _ _ h.2)
  case bastore =>
    dsimp only [xl] at hc
    simp [Nat.beq_eq] at hc
    subst hc
    obtain ⟨v, r, rfl, h⟩ := t1I_inv h
    replace h := t1I_inv h
    obtain ⟨j, r, rfl, h⟩ := h
    replace h := t1R_inv h
    obtain ⟨kd, pp, r, rfl, h⟩ := h
    obtain ⟨e, h⟩ := bo_inv h
    simp only [Bool.or_eq_true, Nat.beq_eq] at e
    rcases e with e | e
    · rw [e] at h
      exact s_zastore hd e h.1 h.2.1 (hK _ _ _ _ h.2.2)
    · rw [e] at h
      exact s_bastore hd e h.1 h.2.1 (hK _ _ _ _ h.2.2)
  case lastore =>
    dsimp only [xl] at hc
    simp [Nat.beq_eq] at hc
    subst hc
    obtain ⟨v, r, rfl, h⟩ := t1L_inv h
    replace h := t1I_inv h
    obtain ⟨j, r, rfl, h⟩ := h
    replace h := t1R_inv h
    obtain ⟨kd, pp, r, rfl, h⟩ := h
    obtain ⟨e, h⟩ := bo_inv h
    simp only [Nat.beq_eq] at e
    exact s_lastore hd e h.1 (hK _ _ _ _ h.2)
  case aastore =>
    dsimp only [xl] at hc
    simp [Nat.beq_eq] at hc
    subst hc
    obtain ⟨kq, q, r, rfl, h⟩ := t1R_inv h
    replace h := t1I_inv h
    obtain ⟨j, r, rfl, h⟩ := h
    replace h := t1R_inv h
    obtain ⟨kd, pp, r, rfl, h⟩ := h
    obtain ⟨e, h⟩ := bo_inv h
    simp only [Bool.and_eq_true, Nat.beq_eq] at e
    obtain ⟨rfl, rfl⟩ := e
    exact s_aastore hd h.1 (hK _ _ _ _ h.2)
  case arraylength =>
    dsimp only [xl] at hc
    simp [Nat.beq_eq] at hc
    subst hc
    replace h := t1R_inv h
    obtain ⟨kd, pp, r, rfl, h⟩ := h
    obtain ⟨e, h⟩ := bo_inv h
    rw [Bool.and_eq_true, Bool.not_eq_true', Bool.not_eq_true'] at e
    exact s_alen hd (fun q => by rw [q] at e; exact absurd e.1 (by decide)) (fun q => by rw [q] at e; exact absurd e.2 (by decide)) (hK _ _ _ _ h)
  case goto f =>
    dsimp only [xl] at hc
    simp [Nat.beq_eq] at hc
    obtain ⟨rfl, ht⟩ := hc
    exact s_goto hd ht h
  case ifCond cc f =>
    dsimp only [xl] at hc
    simp [Nat.beq_eq] at hc
    obtain ⟨rfl, ht⟩ := hc
    replace h := t1I_inv h
    obtain ⟨x, r, rfl, h⟩ := h
    exact s_if hd ht h.1 h.2.1 (fun q => hK _ _ _ _ (h.2.2 q))
  case if_icmp cc f =>
    dsimp only [xl] at hc
    simp [Nat.beq_eq] at hc
    obtain ⟨rfl, ht⟩ := hc
    replace h := t1I_inv h
    obtain ⟨y, r, rfl, h⟩ := h
    obtain ⟨x, r, rfl, h⟩ := t1I_inv h
    exact s_icmp hd ht h.1.1 h.1.2 h.2.1 (fun q => hK _ _ _ _ (h.2.2 q))
  case tableswitch df lo hi os =>
    simp only [Bool.and_eq_true, decide_eq_true_eq] at hc
    replace h := t1I_inv h
    obtain ⟨x, r, rfl, h⟩ := h
    exact s_tsw hd hc.1.1 hc.1.2 hc.2 h.1 h.2.1 h.2.2
  case lookupswitch df ps =>
    rw [Bool.and_eq_true, Bool.and_eq_true, decide_eq_true_eq] at hc
    replace h := t1I_inv h
    obtain ⟨x, r, rfl, h⟩ := h
    exact s_lsw hd hc.1.1 hc.1.2 hc.2 h.1 h.2
  case ireturn =>
    dsimp only [st1] at h
    split at h
    · rename_i x
      refine s_ret (r := some (vi x)) ⟨?_, ?_⟩ h.2
      · rw [Bool.and_eq_true, Nat.beq_eq] at hc
        have hl : len = 1 := hc.1
        subst hl
        exact hd
      · rw [Bool.and_eq_true, Nat.beq_eq] at hc
        obtain ⟨-, hc⟩ := hc
        dsimp only at hc
        have h1 := h.1
        match a, hc, h1 with
        | 0, hc, _ => exact Or.inl (of_decide_eq_true hc)
        | a + 1, hc, h1 => exact Or.inr ⟨of_decide_eq_true hc, h1⟩
    · exact h.elim
  case lreturn =>
    dsimp only [xl] at hc
    simp [Nat.beq_eq] at hc
    obtain ⟨rfl, hc⟩ := hc
    dsimp only [st1] at h
    split at h
    · rename_i x
      exact s_ret (r := some (vl x)) ⟨hd, hc⟩ h
    · exact h.elim
  case return_ =>
    dsimp only [xl] at hc
    simp [Nat.beq_eq] at hc
    obtain ⟨rfl, hc⟩ := hc
    dsimp only [st1] at h
    split at h
    · exact s_ret (r := none) ⟨hd, hc⟩ h
    · exact h.elim
  case invokevirtual x =>
    dsimp only [xl] at hc
    simp only [Bool.and_eq_true, decide_eq_true_eq, List.contains_iff_mem, Nat.ble_eq, Nat.beq_eq] at hc
    obtain ⟨rfl, ⟨⟨⟨c1, c2⟩, c3⟩, c4⟩, c5⟩ := hc
    obtain ⟨d2, as, rest, e1, e2, e3, e4, e5, e6⟩ := callA_inv h
    dsimp only at c1 c2 c3 c4 c5 e2 e3 e6
    subst c3
    exact s_callV hd c1 c2 c4 c5 e1 e2 e3 e4 e5 (e6.mono (fun r m2 n2 q => hK _ _ _ _ q))
  case invokestatic x =>
    dsimp only [st1] at h
    dsimp only at hc
    rw [Bool.and_eq_true, Nat.beq_eq] at hc
    obtain ⟨hlen, hc⟩ := hc
    simp only [xl] at hlen
    subst hlen
    split at h
    · simp only [List.contains_iff_mem] at hc
      replace h := t1I_inv h
      obtain ⟨len, r, rfl, h⟩ := h
      replace h := t1I_inv h
      obtain ⟨dp, r, rfl, h⟩ := h
      replace h := t1R_inv h
      obtain ⟨kd, pd, r, rfl, h⟩ := h
      replace h := t1I_inv h
      obtain ⟨sp, r, rfl, h⟩ := h
      replace h := t1R_inv h
      obtain ⟨ks, ps, r, rfl, h⟩ := h
      obtain ⟨e, hh, h⟩ := bo_inv h
      simp only [Bool.and_eq_true, Bool.or_eq_true, Nat.beq_eq, Nat.ble_eq] at e
      split at h
      · exact h.elim
      · exact s_copy hd hc e.1.1 e.1.2 e.2 (by omega) hh (hK _ _ _ _ h)
    · simp only [List.contains_iff_mem] at hc
      replace h := t1I_inv h
      obtain ⟨y, r, rfl, h⟩ := h
      replace h := t1I_inv h
      obtain ⟨x, r, rfl, h⟩ := h
      obtain ⟨e, hh, h⟩ := bo_inv h
      simp only [Nat.ble_eq] at e
      split at h
      · exact h.elim
      · exact s_max hd hc e (by omega) hh.1 hh.2 (hK _ _ _ _ h)
    · rename_i hne hne3
      obtain ⟨d2, as, rest, e1, e2, e3, e4, e5, e6⟩ := callA_inv h
      split at hc
      · exact absurd rfl hne
      · exact absurd rfl hne3
      · simp only [Bool.and_eq_true, Bool.or_eq_true, decide_eq_true_eq, List.contains_iff_mem, Nat.ble_eq] at hc
        obtain ⟨⟨⟨⟨rfl, c1⟩, c2⟩, c4⟩, c5⟩ := hc
        exact s_callN hd c1 c2 c4 c5 e1 e2 e4 e5 (e6.mono (fun r m2 n2 q => hK _ _ _ _ q))
      · simp only [Bool.and_eq_true, decide_eq_true_eq, List.contains_iff_mem, Nat.ble_eq] at hc
        obtain ⟨⟨⟨c1, c2⟩, c4⟩, c5⟩ := hc
        exact s_callS hd c1 c2 c4 c5 e1 e2 e4 e5 (e6.mono (fun r m2 n2 q => hK _ _ _ _ q))
theorem wp_ok {Γ : GG} {d k : Nat} {post : PO} : ∀ (is : List II) (pc : Nat) (ls : LV) (st : List AV) (m : MI) (n : ML), hasB k pc is = true → wp Γ d k post pc is ls st m n → AM Γ d k pc ls st m n post
  | [], pc, ls, st, m, n, _, h => h
  | i :: is, pc, ls, st, m, n, hc, h => by
    simp only [hasB, Bool.and_eq_true] at hc
    exact st1_ok hc.1 h (fun ls' st' m' n' q => wp_ok is _ ls' st' m' n' hc.2 q)
/-- a stretch, by its instructions -/
theorem blk {Γ : GG} {d k pc : Nat} {post : PO} {ls : LV} {st : List AV} {m : MI} {n : ML} (is : List II) (hc : hasB k pc is = true) (h : wp Γ d k post pc is ls st m n) : AM Γ d k pc ls st m n post := wp_ok is pc ls st m n hc h
def entL : List AV → LV
  | [] => []
  | .inr (.inl x) :: r => some (vl x) :: none :: entL r
  | v :: r => some v :: entL r
theorem entL_cons1 {v : AV} {r : List AV} (h : isL (some v) = false) : entL (v :: r) = some v :: entL r := by
  rcases v with x | x | ⟨a, b⟩ <;> simp [entL, isL] at *
theorem entL_mem : ∀ (as : List AV) (v : AV), some v ∈ entL as → v ∈ as
  | [], v, h => by simp [entL] at h
  | .inr (.inl x) :: r, v, h => by
    simp only [entL, List.mem_cons] at h
    rcases h with h | h | h
    · cases h; exact List.mem_cons_self
    · cases h
    · exact List.mem_cons_of_mem _ (entL_mem r v h)
  | .inl x :: r, v, h => by
    simp only [entL, List.mem_cons] at h
    rcases h with h | h
    · cases h; exact List.mem_cons_self
    · exact List.mem_cons_of_mem _ (entL_mem r v h)
  | .inr (.inr x) :: r, v, h => by
    simp only [entL, List.mem_cons] at h
    rcases h with h | h
    · cases h; exact List.mem_cons_self
    · exact List.mem_cons_of_mem _ (entL_mem r v h)
theorem asc_ent {Γ : GG} : ∀ (as : List AV) (i : Nat), asc Γ i (entL as) = lv_args i (as.map (cv Γ))
  | [], i => rfl
  | .inr (.inl x) :: r, i => by
    simp only [entL, asc, List.map_cons, lv_args, cv, Value.category, if_true]
    rw [asc_ent r (i + 1 + 1)]
  | .inl x :: r, i => by
    simp only [entL, asc, List.map_cons, lv_args, cv, Value.category]
    rw [asc_ent r (i + 1)]
    rfl
  | .inr (.inr x) :: r, i => by
    simp only [entL, asc, List.map_cons, lv_args, cv, Value.category]
    rw [asc_ent r (i + 1)]
    rfl
theorem asc_none {Γ : GG} : ∀ (z i : Nat), asc Γ i (List.replicate z none) = []
  | 0, i => rfl
  | z + 1, i => by rw [List.replicate_succ, asc, asc_none z (i + 1)]
theorem asc_app {Γ : GG} : ∀ (a b : LV) (i : Nat), asc Γ i (a ++ b) = asc Γ i a ++ asc Γ (i + a.length) b
  | [], b, i => rfl
  | none :: a, b, i => by
    simp only [List.cons_append, asc, asc_app a b (i + 1), List.length_cons]
    rw [show i + (a.length + 1) = i + 1 + a.length by omega]
  | some v :: a, b, i => by
    simp only [List.cons_append, asc, asc_app a b (i + 1), List.length_cons]
    rw [show i + (a.length + 1) = i + 1 + a.length by omega]
theorem lg_len {Γ : GG} : ∀ (as : List AV), (lg_sl (as.map (cv Γ))).length = (entL as).length
  | [] => rfl
  | .inr (.inl x) :: r => by
    have := lg_len (Γ := Γ) r
    simp only [entL, List.map_cons, lg_sl, cv, Value.category, List.length_cons] at *
    simp [this]
  | .inl x :: r => by
    have := lg_len (Γ := Γ) r
    simp only [entL, List.map_cons, lg_sl, cv, Value.category, List.length_cons] at *
    simp [this]
  | .inr (.inr x) :: r => by
    have := lg_len (Γ := Γ) r
    simp only [entL, List.map_cons, lg_sl, cv, Value.category, List.length_cons] at *
    simp [this]
def entZ (k : Nat) (as : List AV) : LV := entL as ++ List.replicate (mL k - (entL as).length) none
theorem CM.of_AM {Γ : GG} {d k : Nat} {as : List AV} {m : MI} {n : ML} {post : PO} {ls : LV} (hk : plainName (yN k).cls = true) (ho : (yN k).cls = oN (oI k)) (hk0 : k ≠ 0) (hls : entZ k as = ls) (hlen : (entL as).length ≤ mL k)
    (h : AM Γ d k 0 ls [] m n post) : CM Γ d k as m n post := by
  intro hG hV
  refine Met.ofW (cc := cN k) (maxL := mL k) (ret := rT k) hk rfl ?_
  intro p e s mm args below meth c s₁ B hml hPc
  obtain ⟨rfl, hW, hnw⟩ := hPc
  have hts := atoms_spec (ws := wsM k) B.pre
  have hown : s.vm.findClass (oN (oI k)) = some mm.cls := by
    rw [← ho]
    exact findClass_of_methodNamed B.named
  have hlocks := B.notSynchronized
  have hent := lv_entry (as.map (cv Γ)) (n := mL k) (by rw [lg_len]; exact hlen)
  rw [lg_entry_eq]
  have hL : LOK Γ k ((lg_sl (as.map (cv Γ)) ++ List.replicate (mL k - (lg_sl (as.map (cv Γ))).length) Slot.unset).toArray) ls := by
    subst hls
    refine ⟨?_, ?_, fun v hv => ?_⟩
    · unfold entZ
      rw [asc_app, asc_none, List.append_nil, asc_ent]
      exact hent
    · simp only [entZ, List.length_append, List.length_replicate]
      omega
    · rcases List.mem_append.mp hv with h1 | h1
      · exact okv_okr (hV v (entL_mem as v h1))
      · exact absurd (List.eq_of_mem_replicate h1) (by intro q; cases q)
  refine h p e (rmd d) s mm _ below meth c (fr Γ) 0 0 _ ⟨⟨B.exec, B.bytes, hml, hown, fun w hw => hts w (List.mem_cons_of_mem _ hw), hnw, Nat.le_refl _, Nat.le_refl _, Nat.le_refl _, Nat.le_refl _, fun kk pp hv => ⟨kk, pp, hv, rfl⟩, hG, fun q => absurd q hk0⟩, ?_⟩ s.heap [] _ hW va_S.rf hL (fun v hv => by cases hv)
  intro r m' n' H' locs' ls' pc' hp hW' hS' hR
  have hq : ∀ (t : State), t.heap = H' → s.WarmedH t.vm → (∀ v, r = some v → okv v) → Qm Γ post (as.map (cv Γ)).toArray s (.returned (r.map (cv Γ))) t := fun t h1 h2 h3 =>
    ⟨⟨r, m', n', rfl, hp, by rw [h1]; exact wd_moved hW' h2.alike, h3⟩, hS'.F h1⟩
  rcases r with _ | x | x | x
  · exact W.vret B.exec B.bytes (B.returns.trans hR.2) (fun t h1 h2 => hq t h1 h2 (fun v q => by cases q)) hS'.2.2 hR.1
  · rcases hR.2 with h1 | ⟨h1, h2⟩
    · exact W.iret B.exec B.bytes (B.returns.trans h1) (fun t h1 h2 => hq t h1 h2 (fun v q => by cases q; trivial)) hS'.2.2 hR.1
    · refine W.zret B.exec B.bytes (B.returns.trans h1) ?_ (fun t h1 h2 => hq t h1 h2 (fun v q => by cases q; trivial)) hS'.2.2 hR.1
      rcases h2 with rfl | rfl <;> decide +kernel
  · exact W.lret B.exec B.bytes (B.returns.trans hR.2) (fun t h1 h2 => hq t h1 h2 (fun v q => by cases q; trivial)) hS'.2.2 hR.1
  · exact hR.elim
