-- the text: a story, all stories
/-- the class changes its text and the trial paper's stories -/
def FrS (m m' : MI) : Prop := (∀ k r, ¬ (r = 1 ∧ 3 ≤ k ∧ k ≤ 9) → k ≠ 19 → m' k r = m k r) ∧ m' 19 0 0 = m 19 0 0
theorem FrS.refl {m : MI} : FrS m m := ⟨fun _ _ _ _ => rfl, rfl⟩
theorem FrS.trans {m m1 m2 : MI} (h : FrS m m1) (g : FrS m1 m2) : FrS m m2 := ⟨fun k r z1 z2 => by rw [g.1 k r z1 z2, h.1 k r z1 z2], by rw [g.2, h.2]⟩
theorem FrP.s {m m' : MI} (h : FrP m m') : FrS m m' := ⟨fun k r _ z2 => by rw [h.1 k z2], h.2⟩
theorem FrS.tx {C : Int → Int} {N : Int} {m m' : MI} (h : FrS m m') (t : TxC C N m) : TxC C N m' := ⟨t.1, by rw [h.2]; exact t.2.1, by rw [h.1 20 0 (by omega) (by omega)]; exact t.2.2⟩
theorem InvC.s {mB m : MI} {c y : Int} (h : InvC mB c y m) : FrS mB m := ⟨h.1, h.2.1⟩
/-- the reference goes the class's way through a story -/
def RefT (Γ : GG) (d : Nat) (C : Int → Int) (N : Int) (m : MI) (p : Int) (R : MI → Int → Prop) (b : Int) : Prop := ∀ (mm : MI) (r : Int) (nn : ML) (post2 : PO), TxR C N mm → PRel (Vw m 1) (mm 26 0) → mm 25 0 6 = r → 0 ≤ r → SkR C N r p → (∀ mm' r', FrM mm mm' → mm' 25 0 6 = r' → R mm' r' → post2 (some (vi b)) mm' nn) → CM Γ (d + 3) 122 [vr 25 0] mm nn post2
theorem story_wf {m m' : MI} {c y t : Int} (hW : PWf (Vw m 1) t) (hc : m 3 1 3 = c) (c12 : c < 12) (hy : 1 ≤ y ∧ y ≤ 8) (h : InvC m c y m') : PWf (Vw m' 1) t := by
  obtain ⟨h1, h2, h3, h4, h5, h6, h7, h8, h9, h10, h11⟩ := h
  have w3 := hW.1.2.2.2.1
  have c0 : 0 ≤ c := by
    have : Vw m 1 3 3 = c := hc
    omega
  have e10 : ∀ k, 10 ≤ k → k ≤ 18 → Vw m' 1 k = Vw m 1 k := fun k k1 k2 => h1 k 1 (by omega) (by omega)
  refine hW.grow (c := c) hc c12 (fun j j1 => h3.1 j j1) h3.2 e10 (fun k i k1 k2 k3 k4 => h4 k i k1 k2 k3 k4) (fun z z1 => h5 z z1) ?_
  have ea := (hW.2.2 c c0 c12).2.2.2.1 (by rw [show Vw m 1 3 3 = c from hc]; exact Int.le_refl _)
  unfold SWf
  rw [show Vw m' 1 4 c = m' 4 1 c from rfl, show Vw m' 1 5 c = m' 5 1 c from rfl, show Vw m' 1 6 c = y from h8, show Vw m' 1 8 c = 1 from h9, show Vw m' 1 9 c = 1 from h10 (by omega), show Vw m' 1 3 0 = m 3 1 0 from h3.1 0 (by omega), e10 11 (by omega) (by omega), ea.1]
  exact ⟨h6, h7, hy, Or.inr rfl, Or.inr rfl, h11, fun z => absurd z (by omega), fun _ z => absurd z (by omega)⟩
theorem story_rel {m m' mm' : MI} {s : Int → Int} {c y t : Int} (hW : PWf (Vw m 1) t) (hP : PRel (Vw m 1) s) (hc : m 3 1 3 = c) (c12 : c < 12) (hy : 1 ≤ y ∧ y ≤ 8) (h : InvC m c y m') (g : RelS s c m' mm') : PRel (Vw m' 1) (mm' 26 0) := by
  obtain ⟨h1, h2, h3, h4, h5, h6, h7, h8, h9, h10, h11⟩ := h
  obtain ⟨r1, r2, ⟨r3, r4, r5, r6, r7⟩, ⟨r8, r9⟩, r10⟩ := g
  have w3 := hW.1.2.2.2.1
  have c0 : 0 ≤ c := by
    have : Vw m 1 3 3 = c := hc
    omega
  have e10 : ∀ k, 10 ≤ k → k ≤ 18 → Vw m' 1 k = Vw m 1 k := fun k k1 k2 => h1 k 1 (by omega) (by omega)
  refine hP.grow hW (c := c) hc c12 (fun j j1 => h3.1 j j1) h3.2 e10 (fun k i k1 k2 k3 k4 => h4 k i k1 k2 k3 k4) (fun z z1 => h5 z z1) r1 (fun j j0 j1 j3 ja jb => r2 j j3 ja jb) r8 r9 ?_
  unfold SRel
  rw [show Vw m' 1 4 c = m' 4 1 c from rfl, show Vw m' 1 5 c = m' 5 1 c from rfl, show Vw m' 1 6 c = m' 6 1 c from rfl, show Vw m' 1 8 c = 1 from h9, show Vw m' 1 9 c = 1 from h10 (by omega)]
  exact ⟨r3, r4, r5, fun _ => r6, r7, r10⟩
set_option maxHeartbeats 4000000 in
theorem c_readStory {Γ : GG} {d d2 : Nat} {m : MI} {n : ML} {post : PO} {C : Int → Int} {N p t : Int} (hT : TxC C N m) (hW : PWf (Vw m 1) t) (hp : m 19 0 2 = p) (p0 : 0 ≤ p ∧ p < N) (ps : C p ≠ 32) (hw : m 19 0 3 = -1)
    (K1 : ∀ m' q, FrS m m' → PWf (Vw m' 1) t → m 3 1 3 < 12 → m' 3 1 3 = m 3 1 3 + 1 → m' 19 0 2 = q → (0 ≤ q ∧ q ≤ N) → (q < N → C q ≠ 32) → m' 19 0 3 = -1 → RefT Γ d2 C N m p (fun mm' r' => PRel (Vw m' 1) (mm' 26 0) ∧ 0 ≤ r' ∧ SkR C N r' q) 1 → post none m' n)
    (K0 : ∀ m' w, FrS m m' → m' 19 0 3 = w → (0 ≤ w ∧ w ≤ N) → (0 ≤ m' 19 0 2 ∧ m' 19 0 2 ≤ N) → RefT Γ d2 C N m p (fun _ r' => r' = w) 0 → post none m' n) : CM Γ (d + 4) 48 [vr 19 0, vr 3 1] m n post := by
  have hN := hT.1
  have hC : ∀ i, 0 ≤ i → i < N → 0 ≤ C i ∧ C i ≤ 255 := fun i i0 i1 => (hT.2.2 i i0 i1).2
  have w0 := hW.1.1
  have w3 := hW.1.2.2.2.1
  dsimp only [Vw] at w0 w3
  obtain ⟨c, hc⟩ : ∃ c, c = m 3 1 3 := ⟨_, rfl⟩
  rw [← hc] at w3 K1
  have s3 : ∀ mm : MI, PRel (Vw m 1) (mm 26 0) → mm 26 0 3 = c ∧ mm 26 0 0 = m 3 1 0 := fun mm h => ⟨by rw [hc]; exact h.1.2.2.2.1, h.1.1⟩
  have irw : InR (m 19 0 3) := by rw [hw]; exact ir (by omega) (by omega)
  -- after an error
  have d50 : ∀ (m' : MI) (w x2 x3 : Int), FrP m m' → m' 19 0 3 = w → (0 ≤ w ∧ w ≤ N) → (0 ≤ m' 19 0 2 ∧ m' 19 0 2 ≤ N) → RefT Γ d2 C N m p (fun _ r' => r' = w) 0 → AM Γ (d + 4) 48 50 [some (vr 19 0), some (vr 3 1), some (vi x2), some (vi x3)] [] m' n post := fun m' w x2 x3 f g gb pb R =>
    b48_50 (c_hasFailed (by rw [g]; exact ir (by omega) (by omega)) (fun _ => b48_54 (by omega) (fun _ => b48_68 (K0 m' w f.s g gb pb R)) (fun z => absurd z (by omega))) (fun z => by omega))
  have d43 : ∀ (m' : MI) (w x2 s0 : Int), FrP m m' → m' 19 0 3 = w → (0 ≤ w ∧ w ≤ N) → (0 ≤ m' 19 0 2 ∧ m' 19 0 2 ≤ N) → RefT Γ d2 C N m p (fun _ r' => r' = w) 0 → AM Γ (d + 4) 48 43 [some (vr 19 0), some (vr 3 1), some (vi x2), none] [vi s0] m' n post := fun m' w x2 s0 f g gb pb R =>
    b48_43 (c_readSign (f.tx hT) rfl pb (by rw [g]; exact ir (by omega) (by omega)) (ir (by omega) (by omega)) (fun _ m2 f2 g2 pb2 => d50 m2 w _ _ (f.trans f2) (by rw [g2, g]) gb pb2 R) (fun z => by omega) (fun z => by omega))
  have d32 : ∀ (m' : MI) (w x2 : Int), FrP m m' → m' 19 0 3 = w → (0 ≤ w ∧ w ≤ N) → (0 ≤ m' 19 0 2 ∧ m' 19 0 2 ≤ N) → RefT Γ d2 C N m p (fun _ r' => r' = w) 0 → AM Γ (d + 4) 48 32 [some (vr 19 0), some (vr 3 1), some (vi x2), none] [] m' n post := fun m' w x2 f g gb pb R =>
    b48_32 (c_readNumber (f.tx hT) rfl pb (by rw [g]; exact ir (by omega) (by omega)) (ir (by omega) (by omega)) (by rw [f.1 3 (by omega)]; exact ir (by omega) (by omega)) (fun _ => d43 m' w _ _ f g gb pb R) (fun z => by omega) (fun z => by omega))
  have d25 : ∀ (m' : MI) (w s0 : Int), FrP m m' → m' 19 0 3 = w → (0 ≤ w ∧ w ≤ N) → (0 ≤ m' 19 0 2 ∧ m' 19 0 2 ≤ N) → RefT Γ d2 C N m p (fun _ r' => r' = w) 0 → AM Γ (d + 4) 48 25 [some (vr 19 0), some (vr 3 1), none, none] [vi s0] m' n post := fun m' w s0 f g gb pb R =>
    b48_25 (c_readSign (f.tx hT) rfl pb (by rw [g]; exact ir (by omega) (by omega)) (ir (by omega) (by omega)) (fun _ m2 f2 g2 pb2 => d32 m2 w _ (f.trans f2) (by rw [g2, g]) gb pb2 R) (fun z => by omega) (fun z => by omega))
  -- the reference's first number
  have no1 : (c = 12 ∨ ∀ v e, ¬ NumG C N p 1 99 v e) → RefT Γ d2 C N m p (fun _ r' => r' = p) 0 := by
    intro q mm r nn post2 t1 hP hr r0 sk K
    obtain ⟨e3, e0⟩ := s3 mm hP
    have fin : ∀ lo, (∀ v e, ¬ NumG C N p lo 99 v e) → InR lo → AM Γ (d2 + 3) 122 18 [some (vr 25 0), none, none, none, none] [vi lo, vr 25 0] mm nn post2 := fun lo nv il =>
      b122_18 (r_reads hN hC t1 hr r0 sk il (ir (by omega) (by omega)) (fun v e m1 g _ _ _ => absurd g (nv v e)) (fun _ m1 f1 g1 => b122_23 (by omega) (fun z => absurd rfl z) (fun _ => b122_26 (K m1 p f1.m g1 rfl))))
    refine e122 (b122_0 (by omega) (fun z => b122_17 (fin 1 (q.resolve_left (by omega)) (ir (by omega) (by omega)))) (fun z => b122_12 (fin 100 (fun v e => NumG.no) (ir (by omega) (by omega)))))
  refine e48 (b48_0 (by omega) (fun hlt => b48_18 ?_) (fun hge => b48_9 ?_))
  · have cl : c < 12 := by omega
    refine c_readNumber hT hp ⟨p0.1, by omega⟩ irw (ir (by omega) (by omega)) (ir (by omega) (by omega)) (fun z => absurd hw z) (fun _ v1 e1 q1 m1 gv1 sk1 f1 p1 w1 => ?_) (fun _ nv x m1 f1 g1 pb => d25 m1 p x f1 g1 ⟨p0.1, by omega⟩ pb (no1 (Or.inr nv)))
    have vb1 := gv1.bd
    have sb1 := sk1.1
    have sc1 := sk1.2.1
    have fr1 : ∀ (mm : MI) (r : Int) (nn : ML) (post2 : PO), TxR C N mm → PRel (Vw m 1) (mm 26 0) → mm 25 0 6 = r → 0 ≤ r → SkR C N r p → (∀ mm', FrQ mm mm' → mm' 25 0 6 = e1 → CM Γ (d2 + 2) 121 [vr 25 0, vi 64] mm' nn (fun ro m2 n2 => AM Γ (d2 + 3) 122 39 [some (vr 25 0), some (vi v1), none, none, none] (ro.toList ++ []) m2 n2 post2)) → CM Γ (d2 + 3) 122 [vr 25 0] mm nn post2 := by
      intro mm r nn post2 t1 hP hr r0 sk K
      obtain ⟨e3, e0⟩ := s3 mm hP
      refine e122 (b122_0 (by omega) (fun z => b122_17 (b122_18 (r_reads hN hC t1 hr r0 sk (ir (by omega) (by omega)) (ir (by omega) (by omega)) (fun v e m2 g f2 g6 g7 => ?_) (fun nv => absurd gv1 (nv v1 e1))))) (fun z => absurd z (by omega)))
      obtain ⟨ev, ee⟩ := g.uniq gv1
      subst ev ee
      refine b122_23 (by omega) (fun _ => b122_28 ?_) (fun z => absurd z (by omega))
      rw [g7]
      exact K m2 f2 g6
    refine b48_25 (c_readSign (f1.tx hT) p1 ⟨by omega, by omega⟩ (by rw [w1]; exact ir (by omega) (by omega)) (ir (by omega) (by omega)) (fun z => absurd w1 z) (fun _ z2 z3 q2 m2 sk2 f2 p2 w2 => ?_) (fun _ nz m2 f2 g2 pb => d32 m2 q1 v1 (f1.trans f2) g2 ⟨by omega, by omega⟩ pb (fun mm r nn post2 t1 hP hr r0 sk K => fr1 mm r nn post2 t1 hP hr r0 sk (fun ma fa ga => r_takes hN hC (fa.tx t1) ga (by omega) sk1 ⟨by omega, by omega⟩ (fun y1 y2 => absurd ⟨y1, y2⟩ nz) (fun _ mb fb gb => b122_39 (by omega) (fun _ => b122_58 (K mb q1 (fa.trans fb).m gb rfl)) (fun z => absurd rfl z))))))
    have sb2 := sk2.1
    have sc2 := sk2.2.1
    have f12 := f1.trans f2
    have e30 : m2 3 1 0 = m 3 1 0 := by rw [f12.1 3 (by omega)]
    -- the reference's second number
    have fr2 : ∀ (mm : MI) (r : Int) (nn : ML) (post2 : PO), TxR C N mm → PRel (Vw m 1) (mm 26 0) → mm 25 0 6 = r → 0 ≤ r → SkR C N r p → (∀ mm', FrQ mm mm' → mm' 25 0 6 = q1 + 1 → CM Γ (d2 + 2) 120 [vr 25 0, vi 0, vi (m 3 1 0 - 1)] mm' nn (fun ro m2 n2 => AM Γ (d2 + 3) 122 55 [some (vr 25 0), some (vi v1), none, none, none] (ro.toList ++ []) m2 n2 post2)) → CM Γ (d2 + 3) 122 [vr 25 0] mm nn post2 := by
      intro mm r nn post2 t1 hP hr r0 sk K
      obtain ⟨e3, e0⟩ := s3 mm hP
      refine fr1 mm r nn post2 t1 hP hr r0 sk (fun ma fa ga => r_takes hN hC (fa.tx t1) ga (by omega) sk1 ⟨by omega, by omega⟩ (fun _ _ mb fb gb => b122_39 (by omega) (fun z => absurd z (by omega)) (fun _ => b122_42 ?_)) (fun nz => absurd ⟨z2, z3⟩ nz))
      rw [(fa.trans fb).1 26 (by omega), e0]
      exact K mb (fa.trans fb) gb
    refine b48_32 ?_
    rw [e30]
    refine c_readNumber (f12.tx hT) p2 ⟨by omega, by omega⟩ (by rw [w2]; exact ir (by omega) (by omega)) (ir (by omega) (by omega)) (ir (by omega) (by omega)) (fun z => absurd w2 z) (fun _ v2 e2 q3 m3 gv2 sk3 f3 p3 w3' => ?_) (fun _ nv x m3 f3 g3 pb => d43 m3 q2 v1 x (f12.trans f3) g3 ⟨by omega, by omega⟩ pb (fun mm r nn post2 t1 hP hr r0 sk K => fr2 mm r nn post2 t1 hP hr r0 sk (fun ma fa ga => r_reads hN hC (fa.tx t1) ga (by omega) sk2 (ir (by omega) (by omega)) (ir (by omega) (by omega)) (fun v e mb g _ _ _ => absurd g (nv v e)) (fun _ mb fb gb => b122_55 (by omega) (fun z => absurd rfl z) (fun _ => b122_58 (K mb q2 (fa.trans fb).m gb rfl))))))
    have vb2 := gv2.bd
    have sb3 := sk3.1
    have sc3 := sk3.2.1
    have f13 := f12.trans f3
    -- the reference's story
    have fr3 : ∀ (mm : MI) (r : Int) (nn : ML) (post2 : PO), TxR C N mm → PRel (Vw m 1) (mm 26 0) → mm 25 0 6 = r → 0 ≤ r → SkR C N r p → (∀ mm', FrM mm mm' → mm' 26 0 3 = c + 1 → (∀ z, z ≠ 3 → ¬ (4 + 13 * c ≤ z ∧ z < 17 + 13 * c) → ¬ (164 + 20 * c ≤ z ∧ z < 184 + 20 * c) → mm' 26 0 z = mm 26 0 z) → mm' 26 0 (4 + 13 * c) = v1 → mm' 26 0 (4 + 13 * c + 1) = v2 → mm' 26 0 (4 + 13 * c + 2) = 1 → mm' 26 0 (4 + 13 * c + 3) = 1 → mm' 26 0 (4 + 13 * c + 4) = 0 → mm' 26 0 (164 + 20 * c) = -9 → mm' 26 0 (164 + 20 * c + 1) = 0 → mm' 25 0 6 = e2 → CM Γ (d2 + 2) 121 [vr 25 0, vi 58] mm' nn (fun ro m2 n2 => AM Γ (d2 + 3) 122 76 [some (vr 25 0), some (vi v1), some (vi c), none, none] (ro.toList ++ []) m2 n2 post2)) → CM Γ (d2 + 3) 122 [vr 25 0] mm nn post2 := by
      intro mm r nn post2 t1 hP hr r0 sk K
      obtain ⟨e3, e0⟩ := s3 mm hP
      refine fr2 mm r nn post2 t1 hP hr r0 sk (fun ma fa ga => r_reads hN hC (fa.tx t1) ga (by omega) sk2 (ir (by omega) (by omega)) (ir (by omega) (by omega)) (fun v e mb g fb g6 g7 => ?_) (fun nv => absurd gv2 (nv v2 e2)))
      obtain ⟨ev, ee⟩ := g.uniq gv2
      subst ev ee
      have fab := fa.trans fb
      refine b122_55 (by omega) (fun _ => b122_60 ?_) (fun z => absurd z (by omega))
      rw [g7]
      refine r_adds (c := c) (by rw [fab.1 26 (by omega)]; exact e3) w3.1 cl (fun mx x1 x2 x3 x4 x5 x6 x7 x8 x9 x10 => b122_69 (K mx (fab.m.trans (FrM.s x1)) x2 (fun z z1 z2 z3 => by rw [x3 z z1 z2 z3, fab.1 26 (by omega)]) x4 x5 x6 x7 x8 x9 x10 (by rw [x1 25 (by omega)]; exact g6)))
    refine b48_43 (c_readSign (f13.tx hT) p3 ⟨by omega, by omega⟩ (by rw [w3']; exact ir (by omega) (by omega)) (ir (by omega) (by omega)) (fun z => absurd w3' z) (fun _ y2 y3 q4 m4 sk4 f4 p4 w4 => ?_) (fun _ nz m4 f4 g4 pb => d50 m4 q3 v1 v2 (f13.trans f4) g4 ⟨by omega, by omega⟩ pb (fun mm r nn post2 t1 hP hr r0 sk K => fr3 mm r nn post2 t1 hP hr r0 sk (fun mx fx _ _ _ _ _ _ _ _ _ gx => r_takes hN hC (fx.tx t1) gx (by omega) sk3 ⟨by omega, by omega⟩ (fun z1 z2 => absurd ⟨z1, z2⟩ nz) (fun _ my fy gy => b122_76 (b122_80 (by omega) (fun _ => b122_131 (by omega) (fun _ => b122_149 (b122_150 (Or.inl rfl) (K my q3 (fx.trans fy.m) gy rfl))) (fun z => absurd rfl z)) (fun z => absurd rfl z)))))))
    have sb4 := sk4.1
    have sc4 := sk4.2.1
    have f14 := f13.trans f4
    refine b48_50 (c_hasFailed (by rw [w4]; exact ir (by omega) (by omega)) (fun z => absurd w4 z) (fun _ => b48_54 (by omega) (fun z => absurd rfl z) (fun _ => b48_57 ?_)))
    have k3 : m4 3 1 3 = c := by rw [f14.1 3 (by omega), hc]
    refine c_appendStory (by omega) (b48_65 ?_)
    rw [k3]
    generalize hm5 : up (up (up (up (up m4 4 1 c v1) 5 1 c v2) 6 1 c 0) 8 1 c 1) 3 1 3 (c + 1) = m5
    have o5 : ∀ k r, ¬ (r = 1 ∧ (k = 3 ∨ k = 4 ∨ k = 5 ∨ k = 6 ∨ k = 8)) → m5 k r = m4 k r := fun k r z => by
      rw [← hm5, up_ne (fun q => z (by omega)), up_ne (fun q => z (by omega)), up_ne (fun q => z (by omega)), up_ne (fun q => z (by omega)), up_ne (fun q => z (by omega))]
    have v3 : ∀ j, m5 3 1 j = if j = 3 then c + 1 else m4 3 1 j := fun j => by rw [← hm5]; simp [up_rd]
    have v4 : ∀ j, m5 4 1 j = if j = c then v1 else m4 4 1 j := fun j => by rw [← hm5]; simp [up_rd]
    have v5 : ∀ j, m5 5 1 j = if j = c then v2 else m4 5 1 j := fun j => by rw [← hm5]; simp [up_rd]
    have v6 : ∀ j, m5 6 1 j = if j = c then 0 else m4 6 1 j := fun j => by rw [← hm5]; simp [up_rd]
    have v8 : ∀ j, m5 8 1 j = if j = c then 1 else m4 8 1 j := fun j => by rw [← hm5]; simp [up_rd]
    clear hm5
    have g4 : ∀ k, k ≠ 19 → m4 k = m k := fun k z => f14.1 k z
    have I5 : InvC m c 0 m5 := by
      refine ⟨fun k r z1 z2 => by rw [o5 k r (by omega), g4 k z2], by rw [o5 19 0 (by omega)]; exact f14.2, ⟨fun j j1 => by rw [v3, if_neg j1, g4 3 (by omega)], by rw [v3, if_pos rfl]⟩, fun k i z1 z2 z3 z4 => ?_, fun z _ => by rw [o5 7 1 (by omega), g4 7 (by omega)], by rw [v4, if_pos rfl]; omega, by rw [v5, if_pos rfl]; omega, by rw [v6, if_pos rfl], by rw [v8, if_pos rfl], fun z => absurd z (by omega), fun j j0 j1 => by omega⟩
      rcases (show k = 4 ∨ k = 5 ∨ k = 6 ∨ k = 8 ∨ k = 9 by omega) with rfl | rfl | rfl | rfl | rfl
      · rw [v4, if_neg z4, g4 4 (by omega)]
      · rw [v5, if_neg z4, g4 5 (by omega)]
      · rw [v6, if_neg z4, g4 6 (by omega)]
      · rw [v8, if_neg z4, g4 8 (by omega)]
      · rw [o5 9 1 (by omega), g4 9 (by omega)]
    have p5 : m5 19 0 2 = q4 := by rw [o5 19 0 (by omega)]; exact p4
    have w5 : m5 19 0 3 = -1 := by rw [o5 19 0 (by omega)]; exact w4
    -- the reference's paragraphs
    have fr4 : ∀ (R : MI → Int → Prop) (bb : Int), (∀ s, PRel (Vw m 1) s → RefP Γ d2 C N s c m5 q4 (fun mm' r' => R mm' r') bb) → RefT Γ d2 C N m p R bb := by
      intro R bb hR mm r nn post2 t1 hP hr r0 sk K
      refine fr3 mm r nn post2 t1 hP hr r0 sk (fun mx fx a1 a2 a3 a4 a5 a6 a7 a8 a9 gx => r_takes hN hC (fx.tx t1) gx (by omega) sk3 ⟨by omega, by omega⟩ (fun _ _ my fy gy => b122_76 (hR (mm 26 0) hP my (q3 + 1) v1 nn post2 (fy.tx (fx.tx t1)) ?_ gy (by omega) sk4 (fun mz r' fz gz hz => K mz r' ((fx.trans fy.m).trans fz) gz hz))) (fun nz => absurd ⟨y2, y3⟩ nz))
      unfold RelS
      rw [fy.1 26 (by omega), v4, v5, v6, if_pos rfl, if_pos rfl, if_pos rfl]
      exact ⟨a1, a2, ⟨a3, a4, a5, a6, a7⟩, ⟨a8, a9⟩, fun j j0 j1 => by omega⟩
    refine e49 (b49_0 (c_readParas (d := d) (d2 := d2) hT ⟨w3.1, cl⟩ 0 (by omega) (by omega) m5 q4 _ I5 p5 ⟨by omega, by omega⟩ sk4.2.2.2 w5 (fun m' q y' k1 k2 k3 k4 k5 k6 k7 => b48_68 (K1 m' q k2.s (story_wf hW hc.symm cl k1 k2) cl k2.2.2.1.2 k3 k4 k5 k6 (fr4 _ _ (fun s hs mm r x1 nn post2 z1 z2 z3 z4 z5 z6 => k7 s mm r x1 nn post2 z1 z2 z3 z4 z5 (fun mm' r' u1 u2 u3 => z6 mm' r' u1 u2 ⟨story_rel hW hs hc.symm cl k1 k2 u3.1, u3.2⟩))))) (fun m' w y' k1 k2 k3 k3' k4 => b48_68 (K0 m' w k1.s k2 k3 k3' (fr4 _ _ (fun s hs => k4 s))))))
  · rw [hp]
    exact c_failAt irw (fun z => absurd hw z) (fun _ => b48_17 (K0 _ p (FrP.up (by omega)).s (by rw [up19, if_pos rfl]) ⟨p0.1, by omega⟩ (by rw [up19, if_neg (by omega), hp]; omega) (no1 (Or.inl (by omega)))))
