-- the text: a story
def FrM (mm mm' : MI) : Prop := (∀ k, k ≠ 25 → k ≠ 26 → mm' k = mm k) ∧ ∀ f, f ≠ 6 → f ≠ 7 → mm' 25 0 f = mm 25 0 f
theorem FrM.refl {m : MI} : FrM m m := ⟨fun _ _ _ => rfl, fun _ _ _ => rfl⟩
theorem FrM.trans {m m1 m2 : MI} (h : FrM m m1) (g : FrM m1 m2) : FrM m m2 := ⟨fun k z1 z2 => by rw [g.1 k z1 z2, h.1 k z1 z2], fun f z1 z2 => by rw [g.2 f z1 z2, h.2 f z1 z2]⟩
theorem FrM.tx {C : Int → Int} {N : Int} {m m' : MI} (h : FrM m m') (t : TxR C N m) : TxR C N m' := ⟨by rw [h.2 4 (by omega) (by omega)]; exact t.1, by rw [h.1 28 (by omega) (by omega)]; exact t.2⟩
theorem FrQ.m {m m' : MI} (h : FrQ m m') : FrM m m' := ⟨fun k z1 _ => h.1 k z1, h.2⟩
theorem FrM.s {m m' : MI} (h : ∀ k, k ≠ 26 → m' k = m k) : FrM m m' := ⟨fun k _ z => h k z, fun f _ _ => by rw [h 25 (by omega)]⟩
/-- the class while it reads the paragraphs of a story -/
def InvC (mB : MI) (c y : Int) (m : MI) : Prop := (∀ k r, ¬ (r = 1 ∧ 3 ≤ k ∧ k ≤ 9) → k ≠ 19 → m k r = mB k r) ∧ m 19 0 0 = mB 19 0 0 ∧ ((∀ j, j ≠ 3 → m 3 1 j = mB 3 1 j) ∧ m 3 1 3 = c + 1) ∧ (∀ k i, 4 ≤ k → k ≤ 9 → k ≠ 7 → i ≠ c → m k 1 i = mB k 1 i) ∧ (∀ z, ¬ (c * 8 ≤ z ∧ z < c * 8 + 8) → m 7 1 z = mB 7 1 z) ∧ (1 ≤ m 4 1 c ∧ m 4 1 c ≤ 99) ∧ (0 ≤ m 5 1 c ∧ m 5 1 c < mB 3 1 0) ∧ m 6 1 c = y ∧ m 8 1 c = 1 ∧ (0 < y → m 9 1 c = 1) ∧ ∀ j, 0 ≤ j → j < y → 1 ≤ m 7 1 (c * 8 + j) ∧ m 7 1 (c * 8 + j) ≤ 30
/-- the reference meanwhile -/
def RelS (s : Int → Int) (c : Int) (m mm : MI) : Prop := mm 26 0 3 = c + 1 ∧ (∀ z, z ≠ 3 → ¬ (4 + 13 * c ≤ z ∧ z < 17 + 13 * c) → ¬ (164 + 20 * c ≤ z ∧ z < 184 + 20 * c) → mm 26 0 z = s z) ∧ (mm 26 0 (4 + 13 * c) = m 4 1 c ∧ mm 26 0 (4 + 13 * c + 1) = m 5 1 c ∧ mm 26 0 (4 + 13 * c + 2) = 1 ∧ mm 26 0 (4 + 13 * c + 3) = 1 ∧ mm 26 0 (4 + 13 * c + 4) = m 6 1 c) ∧ (mm 26 0 (164 + 20 * c) = -9 ∧ mm 26 0 (164 + 20 * c + 1) = 0) ∧ ∀ j, 0 ≤ j → j < m 6 1 c → mm 26 0 (9 + 13 * c + j) = m 7 1 (c * 8 + j)
theorem InvC.fr {mB m m' : MI} {c y : Int} (h : InvC mB c y m) (f : FrP m m') : InvC mB c y m' := by
  obtain ⟨h1, h2, h3, h4, h5, h6, h7, h8, h9, h10, h11⟩ := h
  have g : ∀ k, k ≤ 18 → m' k = m k := fun k k1 => f.1 k (by omega)
  refine ⟨fun k r z1 z2 => by rw [f.1 k z2]; exact h1 k r z1 z2, by rw [f.2]; exact h2, ?_, fun k i z1 z2 z3 z4 => by rw [g k (by omega)]; exact h4 k i z1 z2 z3 z4, fun z z1 => by rw [g 7 (by omega)]; exact h5 z z1, ?_, ?_, ?_, ?_, ?_, fun j j0 j1 => ?_⟩
  · rw [g 3 (by omega)]; exact h3
  · rw [g 4 (by omega)]; exact h6
  · rw [g 5 (by omega)]; exact h7
  · rw [g 6 (by omega)]; exact h8
  · rw [g 8 (by omega)]; exact h9
  · rw [g 9 (by omega)]; exact h10
  · rw [g 7 (by omega)]; exact h11 j j0 j1
theorem InvC.tx {C : Int → Int} {N : Int} {mB m : MI} {c y : Int} (h : InvC mB c y m) (t : TxC C N mB) : TxC C N m := ⟨t.1, by rw [h.2.1]; exact t.2.1, by rw [h.1 20 0 (by omega) (by omega)]; exact t.2.2⟩
theorem RelS.fr {s : Int → Int} {m m' mm mm' : MI} {c : Int} (h : RelS s c m mm) (f : ∀ k, k ≤ 18 → m' k = m k) (g : mm' 26 = mm 26) : RelS s c m' mm' := by
  unfold RelS
  rw [g, f 4 (by omega), f 5 (by omega), f 6 (by omega), f 7 (by omega)]
  exact h
/-- a paragraph more -/
theorem InvC.next {mB m : MI} {c y v : Int} (h : InvC mB c y m) (hc : 0 ≤ c ∧ c < 12) (hy : 0 ≤ y ∧ y < 8) (hv : 1 ≤ v ∧ v ≤ 30) : InvC mB c (y + 1) (up (up (up m 6 1 c (m 6 1 c + 1)) 7 1 (c * 8 + m 6 1 c) v) 9 1 c 1) := by
  obtain ⟨h1, h2, h3, h4, h5, h6, h7, h8, h9, h10, h11⟩ := h
  generalize hm : up (up (up m 6 1 c (m 6 1 c + 1)) 7 1 (c * 8 + m 6 1 c) v) 9 1 c 1 = m'
  have o : ∀ k r, ¬ (r = 1 ∧ (k = 6 ∨ k = 7 ∨ k = 9)) → m' k r = m k r := fun k r z => by rw [← hm, up_ne (fun q => z (by omega)), up_ne (fun q => z (by omega)), up_ne (fun q => z (by omega))]
  have v6 : ∀ i, m' 6 1 i = if i = c then y + 1 else m 6 1 i := fun i => by rw [← hm, h8]; simp [up_rd]
  have v7 : ∀ i, m' 7 1 i = if i = c * 8 + y then v else m 7 1 i := fun i => by rw [← hm, h8]; simp [up_rd]
  have v9 : ∀ i, m' 9 1 i = if i = c then 1 else m 9 1 i := fun i => by rw [← hm]; simp [up_rd]
  refine ⟨fun k r z1 z2 => by rw [o k r (by omega), h1 k r z1 z2], by rw [o 19 0 (by omega)]; exact h2, by rw [o 3 1 (by omega)]; exact h3, fun k i z1 z2 z3 z4 => ?_, fun z z1 => by rw [v7, if_neg (by omega), h5 z z1], by rw [o 4 1 (by omega)]; exact h6, by rw [o 5 1 (by omega)]; exact h7, by rw [v6, if_pos rfl], by rw [o 8 1 (by omega)]; exact h9, fun _ => by rw [v9, if_pos rfl], fun j j0 j1 => ?_⟩
  · by_cases q6 : k = 6
    · subst q6; rw [v6, if_neg z4, h4 6 i z1 z2 z3 z4]
    · by_cases q9 : k = 9
      · subst q9; rw [v9, if_neg z4, h4 9 i z1 z2 z3 z4]
      · rw [o k 1 (by omega), h4 k i z1 z2 z3 z4]
  · rw [v7]
    by_cases q : j = y
    · rw [if_pos (by omega)]; exact hv
    · rw [if_neg (by omega)]; exact h11 j j0 (by omega)
theorem RelS.next {s : Int → Int} {mB m mm mm' : MI} {c y v : Int} (h : RelS s c m mm) (hI : InvC mB c y m) (hc : 0 ≤ c ∧ c < 12) (hy : 0 ≤ y ∧ y < 8) (g : ∀ j, mm' 26 0 j = if j = 4 + 13 * c + 3 then 1 else if j = 4 + 13 * c + 4 then y + 1 else if j = 9 + 13 * c + y then v else mm 26 0 j) : RelS s c (up (up (up m 6 1 c (m 6 1 c + 1)) 7 1 (c * 8 + m 6 1 c) v) 9 1 c 1) mm' := by
  have h8 := hI.2.2.2.2.2.2.2.1
  obtain ⟨r1, r2, ⟨r3, r4, r5, r6, r7⟩, ⟨r8, r9⟩, r10⟩ := h
  generalize hm : up (up (up m 6 1 c (m 6 1 c + 1)) 7 1 (c * 8 + m 6 1 c) v) 9 1 c 1 = m'
  have o : ∀ k r, ¬ (r = 1 ∧ (k = 6 ∨ k = 7 ∨ k = 9)) → m' k r = m k r := fun k r z => by rw [← hm, up_ne (fun q => z (by omega)), up_ne (fun q => z (by omega)), up_ne (fun q => z (by omega))]
  have v6 : m' 6 1 c = y + 1 := by rw [← hm, h8]; simp [up_rd]
  have v7 : ∀ i, m' 7 1 i = if i = c * 8 + y then v else m 7 1 i := fun i => by rw [← hm, h8]; simp [up_rd]
  unfold RelS
  rw [v6, o 4 1 (by omega), o 5 1 (by omega)]
  refine ⟨?_, fun z z1 z2 z3 => ?_, ⟨?_, ?_, ?_, ?_, ?_⟩, ⟨?_, ?_⟩, fun j j0 j1 => ?_⟩
  · rw [g, if_neg (by omega), if_neg (by omega), if_neg (by omega), r1]
  · rw [g, if_neg (by omega), if_neg (by omega), if_neg (by omega), r2 z z1 z2 z3]
  · rw [g, if_neg (by omega), if_neg (by omega), if_neg (by omega), r3]
  · rw [g, if_neg (by omega), if_neg (by omega), if_neg (by omega), r4]
  · rw [g, if_neg (by omega), if_neg (by omega), if_neg (by omega), r5]
  · rw [g, if_pos rfl]
  · rw [g, if_neg (by omega), if_pos rfl]
  · rw [g, if_neg (by omega), if_neg (by omega), if_neg (by omega), r8]
  · rw [g, if_neg (by omega), if_neg (by omega), if_neg (by omega), r9]
  · rw [g, v7, if_neg (by omega), if_neg (by omega)]
    by_cases q : j = y
    · rw [if_pos (by omega), if_pos (by omega)]
    · rw [if_neg (by omega), if_neg (by omega)]
      exact r10 j j0 (by omega)
/-- the reference reads a paragraph -/
theorem r_para {Γ : GG} {d : Nat} {mm : MI} {n : ML} {post : PO} {C : Int → Int} {N r p c y v e x1 : Int} (hN : 0 ≤ N ∧ N ≤ 120) (hC : ∀ i, 0 ≤ i → i < N → 0 ≤ C i ∧ C i ≤ 255) (hT : TxR C N mm) (hc : 0 ≤ c ∧ c < 12) (hy : 0 ≤ y ∧ y < 8) (h6 : mm 26 0 (4 + 13 * c + 4) = y) (hr : mm 25 0 6 = r) (r0 : 0 ≤ r) (hs : SkR C N r p) (hv : NumG C N p 1 30 v e)
    (K : ∀ mm', FrM mm mm' → (∀ j, mm' 26 0 j = if j = 4 + 13 * c + 3 then 1 else if j = 4 + 13 * c + 4 then y + 1 else if j = 9 + 13 * c + y then v else mm 26 0 j) → mm' 25 0 6 = e → AM Γ (d + 3) 122 121 [some (vr 25 0), some (vi x1), some (vi c), some (vi 1), some (vi 1)] [] mm' n post) : AM Γ (d + 3) 122 80 [some (vr 25 0), some (vi x1), some (vi c), some (vi 1), some (vi 1)] [] mm n post := by
  refine b122_80 (by omega) (fun z => absurd z (by omega)) (fun _ => b122_84 (r_of hc (by omega) ?_))
  rw [h6]
  refine b122_91 (by omega) (fun _ => b122_101 (b122_102 (r_reads hN hC hT hr r0 hs (ir (by omega) (by omega)) (ir (by omega) (by omega)) (fun v' e' m1 g f1 g6 g7 => ?_) (fun g => absurd hv (g v e))))) (fun z => absurd z (by omega))
  obtain ⟨ev, ee⟩ := g.uniq hv
  subst ev ee
  have e4 : m1 26 0 (4 + 13 * c + 4) = y := by rw [f1.1 26 (by omega)]; exact h6
  refine b122_107 (by omega) (fun _ => b122_112 ?_) (fun z => absurd z (by omega))
  rw [g7]
  refine r_lengthens hc (by omega) (K _ (f1.m.trans (FrM.s (fun k z => by rw [up_k z, up_k z, up_k z]))) (fun j => ?_) (by rw [up_k (by omega), up_k (by omega), up_k (by omega)]; exact g6))
  rw [up26, up26, up26, e4, f1.1 26 (by omega)]
theorem r_paraNo {Γ : GG} {d : Nat} {mm : MI} {n : ML} {post : PO} {C : Int → Int} {N r p c y x1 : Int} (hN : 0 ≤ N ∧ N ≤ 120) (hC : ∀ i, 0 ≤ i → i < N → 0 ≤ C i ∧ C i ≤ 255) (hT : TxR C N mm) (hc : 0 ≤ c ∧ c < 12) (hy : 0 ≤ y ∧ y ≤ 8) (h6 : mm 26 0 (4 + 13 * c + 4) = y) (hr : mm 25 0 6 = r) (r0 : 0 ≤ r) (hs : SkR C N r p) (hv : y < 8 → ∀ v e, ¬ NumG C N p 1 30 v e)
    (K : ∀ mm', FrM mm mm' → mm' 25 0 6 = p → post (some (vi 0)) mm' n) : AM Γ (d + 3) 122 80 [some (vr 25 0), some (vi x1), some (vi c), some (vi 1), some (vi 1)] [] mm n post := by
  refine b122_80 (by omega) (fun z => absurd z (by omega)) (fun _ => b122_84 (r_of hc (by omega) ?_))
  rw [h6]
  refine b122_91 (by omega) (fun z => b122_101 (b122_102 (r_reads hN hC hT hr r0 hs (ir (by omega) (by omega)) (ir (by omega) (by omega)) (fun v' e' m1 g f1 g6 g7 => absurd g (hv (by omega) v' e')) (fun g m1 f1 g6 => ?_)))) (fun z => b122_96 (b122_102 (r_reads hN hC hT hr r0 hs (ir (by omega) (by omega)) (ir (by omega) (by omega)) (fun v' e' m1 g f1 g6 g7 => absurd g NumG.no) (fun g m1 f1 g6 => ?_))))
  · exact b122_107 (by omega) (fun z => absurd rfl z) (fun _ => b122_110 (K m1 f1.m g6))
  · exact b122_107 (by omega) (fun z => absurd rfl z) (fun _ => b122_110 (K m1 f1.m g6))
/-- the reference goes the class's way through the paragraphs -/
def RefP (Γ : GG) (d : Nat) (C : Int → Int) (N : Int) (s : Int → Int) (c : Int) (m : MI) (p : Int) (R : MI → Int → Prop) (b : Int) : Prop := ∀ (mm : MI) (r x1 : Int) (nn : ML) (post2 : PO), TxR C N mm → RelS s c m mm → mm 25 0 6 = r → 0 ≤ r → SkR C N r p → (∀ mm' r', FrM mm mm' → mm' 25 0 6 = r' → R mm' r' → post2 (some (vi b)) mm' nn) → AM Γ (d + 3) 122 80 [some (vr 25 0), some (vi x1), some (vi c), some (vi 1), some (vi 1)] [] mm nn post2
set_option maxHeartbeats 4000000 in
theorem c_readParas {Γ : GG} {d d2 : Nat} {mB : MI} {n : ML} {post : PO} {C : Int → Int} {N c : Int} (hTB : TxC C N mB) (hc : 0 ≤ c ∧ c < 12) : ∀ y, 0 ≤ y → y ≤ 8 → ∀ (m : MI) (p : Int) (o4 : Option AV), InvC mB c y m → m 19 0 2 = p → (0 ≤ p ∧ p ≤ N) → (p < N → C p ≠ 32) → m 19 0 3 = -1 →
    (∀ m' q y', 1 ≤ y' ∧ y' ≤ 8 → InvC mB c y' m' → m' 19 0 2 = q → (0 ≤ q ∧ q ≤ N) → (q < N → C q ≠ 32) → m' 19 0 3 = -1 → (∀ s, RefP Γ d2 C N s c m p (fun mm' r' => RelS s c m' mm' ∧ 0 ≤ r' ∧ SkR C N r' q) 1) → post none m' n) →
    (∀ m' w y', InvC mB c y' m' → m' 19 0 3 = w → (0 ≤ w ∧ w ≤ N) → (0 ≤ m' 19 0 2 ∧ m' 19 0 2 ≤ N) → (∀ s, RefP Γ d2 C N s c m p (fun _ r' => r' = w) 0) → post none m' n) → AM Γ (d + 3) 49 2 [some (vr 19 0), some (vr 3 1), some (vi c), some (vi y), o4] [] m n post := by
  have hN := hTB.1
  have hC : ∀ i, 0 ≤ i → i < N → 0 ≤ C i ∧ C i ≤ 255 := fun i i0 i1 => (hTB.2.2 i i0 i1).2
  intro y y0 y8
  have key := up_ind (P := fun y => 0 ≤ y → ∀ (m : MI) (p : Int) (o4 : Option AV), InvC mB c y m → m 19 0 2 = p → (0 ≤ p ∧ p ≤ N) → (p < N → C p ≠ 32) → m 19 0 3 = -1 →
    (∀ m' q y', 1 ≤ y' ∧ y' ≤ 8 → InvC mB c y' m' → m' 19 0 2 = q → (0 ≤ q ∧ q ≤ N) → (q < N → C q ≠ 32) → m' 19 0 3 = -1 → (∀ s, RefP Γ d2 C N s c m p (fun mm' r' => RelS s c m' mm' ∧ 0 ≤ r' ∧ SkR C N r' q) 1) → post none m' n) →
    (∀ m' w y', InvC mB c y' m' → m' 19 0 3 = w → (0 ≤ w ∧ w ≤ N) → (0 ≤ m' 19 0 2 ∧ m' 19 0 2 ≤ N) → (∀ s, RefP Γ d2 C N s c m p (fun _ r' => r' = w) 0) → post none m' n) → AM Γ (d + 3) 49 2 [some (vr 19 0), some (vr 3 1), some (vi c), some (vi y), o4] [] m n post) y 8 y8 ?_ ?_
  · exact key y0
  · -- a ninth paragraph
    intro _ m p o4 hI hp p0 ps hw K1 K0
    have h6 := hI.2.2.2.2.2.2.2.1
    refine b49_2 (by omega) (fun _ => b49_64 ?_) (fun z => absurd z (by omega))
    rw [hp]
    refine c_failAt (by rw [hw]; exact ir (by omega) (by omega)) (fun z => absurd hw z) (fun _ => b49_72 (K0 _ p 8 (hI.fr (FrP.up (by omega))) (by rw [up19, if_pos rfl]) p0 (by rw [up19, if_neg (by omega), hp]; exact p0) ?_))
    intro s mm r x1 nn post2 t1 rs hr r0 sk K
    exact r_paraNo hN hC t1 hc (y := 8) ⟨by omega, by omega⟩ (by rw [rs.2.2.1.2.2.2.2, h6]) hr r0 sk (fun z => by omega) (fun mm' f g => K mm' p f g rfl)
  · intro y yy y2 ih y1 m p o4 hI hp p0 ps hw K1 K0
    have hT := hI.tx hTB
    have h6 := hI.2.2.2.2.2.2.2.1
    refine b49_2 (by omega) (fun z => absurd y2 z) (fun _ => b49_8 (c_readNumber hT hp p0 (by rw [hw]; exact ir (by omega) (by omega)) (ir (by omega) (by omega)) (ir (by omega) (by omega)) (fun z => absurd hw z) (fun _ v e q1 m1 gv sk1 f1 g2 g3 => ?_) (fun _ nv x m1 f1 g3 gr => ?_)))
    · -- a good number
      have vb := gv.bd
      have kb := sk1.1
      have kb2 := sk1.2.1
      have I1 := hI.fr f1
      have T1 := I1.tx hTB
      have h61 : m1 6 1 c = y := I1.2.2.2.2.2.2.2.1
      refine b49_15 (c_hasFailed (by rw [g3]; exact ir (by omega) (by omega)) (fun z => absurd g3 z) (fun _ => b49_21 (by omega) (fun _ => b49_25 (c_appendParagraph hc (by omega) (b49_32 ?_))) (fun z => absurd rfl z)))
      have I2 := I1.next (v := v) hc ⟨y1, y2⟩ ⟨by omega, by omega⟩
      -- the reference up to the sign
      have front : ∀ (s : Int → Int) (mm : MI) (r x1 : Int) (nn : ML) (post2 : PO), TxR C N mm → RelS s c m mm → mm 25 0 6 = r → 0 ≤ r → SkR C N r p → (∀ mm', FrM mm mm' → TxR C N mm' → RelS s c (up (up (up m1 6 1 c (m1 6 1 c + 1)) 7 1 (c * 8 + m1 6 1 c) v) 9 1 c 1) mm' → mm' 25 0 6 = e → AM Γ (d2 + 3) 122 121 [some (vr 25 0), some (vi x1), some (vi c), some (vi 1), some (vi 1)] [] mm' nn post2) → AM Γ (d2 + 3) 122 80 [some (vr 25 0), some (vi x1), some (vi c), some (vi 1), some (vi 1)] [] mm nn post2 := by
        intro s mm r x1 nn post2 t1 rs hr r0 sk K
        refine r_para hN hC t1 hc ⟨y1, y2⟩ (by rw [rs.2.2.1.2.2.2.2, h6]) hr r0 sk gv (fun mm' f g g6 => K mm' f (f.tx t1) ?_ g6)
        exact (rs.fr (m' := m1) (mm' := mm) (fun k k1 => f1.1 k (by omega)) rfl).next I1 hc ⟨y1, y2⟩ g
      generalize hm2 : up (up (up m1 6 1 c (m1 6 1 c + 1)) 7 1 (c * 8 + m1 6 1 c) v) 9 1 c 1 = m2 at I2 front
      have k19 : m2 19 = m1 19 := by rw [← hm2, up_k (by omega), up_k (by omega), up_k (by omega)]
      have p2 : m2 19 0 2 = q1 := by rw [k19]; exact g2
      have w2 : m2 19 0 3 = -1 := by rw [k19]; exact g3
      clear hm2
      have T2 := I2.tx hTB
      have q1b : 0 ≤ q1 ∧ q1 ≤ N := by omega
      rw [p2]
      refine c_isAt T2 (ir (by omega) (by omega)) (ir (by omega) (by omega)) (fun z1 z2 z3 => ?_) (fun z => ?_)
      · -- the story ends
        refine b49_42 (by omega) (fun z => absurd z (by omega)) (fun _ => b49_45 (c_readSign T2 p2 q1b (by rw [w2]; exact ir (by omega) (by omega)) (ir (by omega) (by omega)) (fun z => absurd w2 z) (fun _ _ _ q3 m3 sk3 f3 g5 g6 => b49_51 (K1 m3 q3 (y + 1) ⟨by omega, by omega⟩ (I2.fr f3) g5 ?_ sk3.2.2.2 g6 ?_)) (fun _ z => absurd ⟨z2, z3⟩ z)))
        · have a := sk3.1
          have b := sk3.2.1
          omega
        · intro s mm r x1 nn post2 t1 rs hr r0 sk K
          refine front s mm r x1 nn post2 t1 rs hr r0 sk (fun mm' f' t' rs' e' => b122_121 (r_takes hN hC t' e' (by omega) sk1 ⟨by omega, by omega⟩ (fun _ y4 => by omega) (fun _ ma fa ga => b122_127 (b122_80 (by omega) (fun _ => b122_131 (by omega) (fun z => absurd z (by omega)) (fun _ => b122_136 ?_)) (fun z => absurd rfl z)))))
          have ta := fa.tx t'
          refine r_takes hN hC ta ga (by omega) (p := q1) ⟨Int.le_refl _, q1b.2, fun j j1 j2 => by omega, fun _ => by omega⟩ ⟨by omega, by omega⟩ (fun _ _ mb fb gb => b122_142 (by omega) (fun z => absurd z (by omega)) (fun _ => b122_145 (b122_150 (Or.inr rfl) (K mb (q1 + 1) ((f'.trans fa.m).trans fb.m) gb ⟨?_, by omega, sk3⟩)))) (fun z => absurd ⟨z2, z3⟩ z)
          exact rs'.fr (fun k k1 => f3.1 k (by omega)) (by rw [fb.1 26 (by omega), fa.1 26 (by omega)])
      · -- it goes on, or there is an error
        have z' : ¬ (q1 < N ∧ C q1 = 59) := fun y => z ⟨by omega, y⟩
        refine b49_42 (by omega) (fun _ => b49_52 (c_readSign T2 p2 q1b (by rw [w2]; exact ir (by omega) (by omega)) (ir (by omega) (by omega)) (fun z => absurd w2 z) (fun _ z2 z3 q3 m3 sk3 f3 g5 g6 => b49_58 ?_) (fun _ z4 m3 f3 g5 gr => b49_58 ?_))) (fun z => absurd rfl z)
        · -- a comma
          have a := sk3.1
          have b := sk3.2.1
          have step : ∀ (R : (Int → Int) → MI → Int → Prop) (bb : Int), (∀ s, RefP Γ d2 C N s c m3 q3 (R s) bb) → ∀ s, RefP Γ d2 C N s c m p (R s) bb := by
            intro R bb hR s mm r x1 nn post2 t1 rs hr r0 sk K
            refine front s mm r x1 nn post2 t1 rs hr r0 sk (fun mm' f' t' rs' e' => b122_121 (r_takes hN hC t' e' (by omega) sk1 ⟨by omega, by omega⟩ (fun _ _ ma fa ga => b122_127 (hR s ma (q1 + 1) x1 nn post2 (fa.tx t') (rs'.fr (fun k k1 => f3.1 k (by omega)) (fa.1 26 (by omega))) ga (by omega) sk3 (fun mb r' fb gb hb => K mb r' ((f'.trans fa.m).trans fb) gb hb))) (fun y => absurd ⟨z2, z3⟩ y)))
          exact ih (by omega) m3 q3 _ (I2.fr f3) g5 ⟨by omega, by omega⟩ sk3.2.2.2 g6 (fun m' q y' k1 k2 k3 k4 k5 k6 k7 => K1 m' q y' k1 k2 k3 k4 k5 k6 (step (fun s mm' r' => RelS s c m' mm' ∧ 0 ≤ r' ∧ SkR C N r' q) 1 k7)) (fun m' w y' k1 k2 k3 k3' k4 => K0 m' w y' k1 k2 k3 k3' (step (fun _ _ r' => r' = w) 0 k4))
        · -- neither
          have end_ : ∀ m', InvC mB c (y + 1) m' → m' 19 0 3 = q1 → (0 ≤ m' 19 0 2 ∧ m' 19 0 2 ≤ N) → post none m' n := fun m' I' w' pb' => by
            refine K0 m' q1 (y + 1) I' w' q1b pb' ?_
            intro s mm r x1 nn post2 t1 rs hr r0 sk K
            refine front s mm r x1 nn post2 t1 rs hr r0 sk (fun mm' f' t' rs' e' => b122_121 (r_takes hN hC t' e' (by omega) sk1 ⟨by omega, by omega⟩ (fun y1 y4 => absurd ⟨y1, y4⟩ z4) (fun _ ma fa ga => b122_127 (b122_80 (by omega) (fun _ => b122_131 (by omega) (fun z => absurd z (by omega)) (fun _ => b122_136 ?_)) (fun z => absurd rfl z)))))
            have ta := fa.tx t'
            exact r_takes hN hC ta ga (by omega) (p := q1) ⟨Int.le_refl _, q1b.2, fun j j1 j2 => by omega, sk1.2.2.2⟩ ⟨by omega, by omega⟩ (fun y1 y4 => absurd ⟨y1, y4⟩ z') (fun _ mb fb gb => b122_142 (by omega) (fun _ => b122_149 (b122_150 (Or.inl rfl) (K mb q1 ((f'.trans fa.m).trans fb.m) gb rfl))) (fun z => absurd rfl z))
          have I3 := I2.fr f3
          have T3 := I3.tx hTB
          have wne : m3 19 0 3 ≠ -1 := by rw [g5]; omega
          have wir : InR (m3 19 0 3) := by rw [g5]; exact ir (by omega) (by omega)
          refine b49_2 (by omega) (fun _ => b49_64 (c_failAt wir (fun _ => b49_72 (end_ m3 I3 g5 gr)) (fun y => absurd y wne))) (fun _ => b49_8 (c_readNumber T3 rfl gr wir (ir (by omega) (by omega)) (ir (by omega) (by omega)) (fun _ => b49_15 (c_hasFailed wir (fun _ => b49_21 (by omega) (fun y => absurd y (by omega)) (fun _ => b49_24 (end_ m3 I3 g5 gr))) (fun y => absurd y wne))) (fun y => absurd y wne) (fun y => absurd y wne)))
    · -- a bad number
      refine b49_15 (c_hasFailed (by rw [g3]; exact ir (by omega) (by omega)) (fun _ => b49_21 (by omega) (fun y => absurd y (by omega)) (fun _ => b49_24 (K0 m1 p y (hI.fr f1) g3 p0 gr ?_))) (fun y => by omega))
      intro s mm r x1 nn post2 t1 rs hr r0 sk K
      exact r_paraNo hN hC t1 hc (y := y) ⟨y1, by omega⟩ (by rw [rs.2.2.1.2.2.2.2, h6]) hr r0 sk (fun _ => nv) (fun mm' f g => K mm' p f g rfl)
