-- the reference places a story
theorem tr_pg {m : MI} {V : Nat → Int → Int} {T : Int → Int → Prop} {L : List Pc} {q t : Int} (hW : HWf V t) (hg : ∀ x, x ∈ L → GdP V T x) (hT : TR m (fun c l => T c l ∨ OnL L c l)) (hq : 0 ≤ q ∧ q < V 3 0) (hn : ∀ x, x ∈ L → x.1 ≠ q) : ∀ c j, 0 ≤ c → c < 4 → 0 ≤ j → j < 60 → (Tm m (q * 4 + c) j ↔ T (q * 4 + c) j) := by
  intro c j c0 c1 j0 j1
  have w0 := hW.1
  have w1 := hW.2.1
  rw [hT (q * 4 + c) j (by omega) (by omega) j0 j1]
  refine ⟨fun u => u.elim id (fun v => ?_), Or.inl⟩
  obtain ⟨x, hx, o1, o2, o3⟩ := v
  obtain ⟨a1, a2, a3⟩ := hg x hx
  exact absurd (show x.1 = q by omega) (hn x hx)
theorem gp_b {V : Nat → Int → Int} {T : Int → Int → Prop} {x : Pc} {t : Int} (hW : HWf V t) (h : GdP V T x) : (0 ≤ x.1 ∧ x.1 ≤ 4) ∧ (0 ≤ x.2.1 ∧ x.2.1 < 240) ∧ 0 ≤ x.2.2.1 ∧ x.2.1 % 60 + x.2.2.1 ≤ 60 := by
  obtain ⟨a1, a2, a3, a4, _⟩ := h
  have b1 := a3.1
  have b2 := a3.2.1
  have w0 := hW.1
  have w1 := hW.2.1
  have w2 := hW.2.2.1
  exact ⟨by omega, by omega, by omega, by omega⟩
theorem TR.put {m m' : MI} {T : Int → Int → Prop} {L : List Pc} {x : Pc} (h : TR m (fun c l => T c l ∨ OnL L c l)) (g : ∀ c l, 0 ≤ l → l < 60 → (Tm m' c l ↔ Tm m c l ∨ OnX x c l)) : TR m' (fun c l => T c l ∨ OnL (L ++ [x]) c l) := by
  intro c l c0 c1 l0 l1
  rw [g c l l0 l1, h c l c0 c1 l0 l1]
  dsimp only
  rw [OnL_snoc, or_assoc]
theorem TR.nil {m : MI} {T : Int → Int → Prop} (h : TR m T) : TR m (fun c l => T c l ∨ OnL [] c l) := by
  intro c l c0 c1 l0 l1
  rw [h c l c0 c1 l0 l1]
  exact ⟨Or.inl, fun u => u.elim id (fun v => absurd v OnL_nil)⟩
theorem GdL.one {V : Nat → Int → Int} {T : Int → Int → Prop} {x : Pc} (h : GdP V T x) : GdL V T [x] := by
  refine ⟨by simp, fun y hy => ?_, List.Pairwise.cons (fun y hy => by simp at hy) List.Pairwise.nil⟩
  simp only [List.mem_cons, List.not_mem_nil, or_false] at hy
  subst hy
  exact h
theorem GdL.two {V : Nat → Int → Int} {T : Int → Int → Prop} {x y : Pc} (h : GdP V T x) (g : GdP V T y) (n : x.1 ≠ y.1) : GdL V T [x, y] := by
  refine ⟨by simp, fun z hz => ?_, List.Pairwise.cons (fun z hz => ?_) (List.Pairwise.cons (fun z hz => by simp at hz) List.Pairwise.nil)⟩
  · simp only [List.mem_cons, List.not_mem_nil, or_false] at hz
    rcases hz with rfl | rfl
    · exact h
    · exact g
  · simp only [List.mem_cons, List.not_mem_nil, or_false] at hz
    subst hz
    exact n
set_option maxHeartbeats 8000000 in
theorem r_continues {Γ : GG} {d : Nat} {m : MI} {n : ML} {post : PO} {i a t : Int} {V : Nat → Int → Int} {T : Int → Int → Prop} (hP : PRel V (m 26 0)) (hW : PWf V t) (hi : 0 ≤ i ∧ i < V 3 3) (ha : 1 ≤ a ∧ a < V 6 i) (g1 : GdP V T (pl1 V T i a)) (h1 : PutR (m 32 0) i [pl1 V T i a]) (hT : TR m (fun c l => T c l ∨ OnL [pl1 V T i a] c l))
    (K1 : placeB V T i a ≠ [] → ∀ m', FrF m m' i → PutR (m' 32 0) i (placeB V T i a) → TR m' (fun c l => T c l ∨ OnL (placeB V T i a) c l) → post (some (vi 1)) m' n)
    (K0 : placeB V T i a = [] → ∀ m' L, FrF m m' i → PutR (m' 32 0) i L → GdL V T L → TR m' (fun c l => T c l ∨ OnL L c l) → post (some (vi 0)) m' n) : CM Γ (d + 3) 131 [vr 25 0, vi i, vi (V 5 i), vi a] m n post := by
  have w := hW.1
  have w0 := w.1
  have w1 := w.2.1
  have w2 := w.2.2.1
  have w3 := w.2.2.2.1
  have hs := hW.2.1 i hi.1 hi.2
  have h5 := hs.2.1
  have h6 := hs.2.2.1
  have s4 := (hP.2 i hi.1 hi.2).1.2.2.2.2.1
  have lb : ∀ x y, 0 ≤ x → 0 ≤ y → x + y ≤ V 6 i → y ≤ lnV V i x y ∧ lnV V i x y ≤ 240 := fun x y x0 y0 xy => by
    have := lnV_bd hs x0 y0 xy
    omega
  have pgT : ∀ q, 0 ≤ q → q < V 3 0 → q ≠ V 5 i → ∀ c j, 0 ≤ c → c < 4 → 0 ≤ j → j < 60 → (Tm m (q * 4 + c) j ↔ T (q * 4 + c) j) := fun q q0 q1 qn => tr_pg w (GdL.one g1).2.1 hT ⟨q0, q1⟩ (fun x hx => by
    simp only [List.mem_cons, List.not_mem_nil, or_false] at hx
    subst hx
    exact fun e => qn e.symm)
  refine e131 (b131_0 (r_of ⟨hi.1, by omega⟩ (by omega) ?_))
  rw [s4]
  have lA := lb a (V 6 i - a) (by omega) (by omega) (by omega)
  refine b131_6 (r_lnV hP hW hi (by omega) (by omega) (by omega) (b131_18 (r_pgV (ex := -1) (T := T) hP hW hi ⟨by omega, by omega⟩ (ir (by omega) (by omega)) (fun q q0 => by omega) (fun q q0 q1 q2 _ => pgT q q0 q1 q2) (fun z => ?_) (fun z => ?_))))
  · -- the rest has no page
    have z3 : (pl3 V T i a (-1)).1 = -1 := z
    refine b131_31 (by omega) (fun _ => b131_62 ?_) (fun u => absurd rfl u)
    have key := down_ind (P := fun y => nb2 V T i a = nbF (fun b => (pl2 V T i a b).1 ≠ -1) y.toNat → y ≤ V 6 i - a - 1 → AM Γ (d + 3) 131 68 [some (vr 25 0), some (vi i), some (vi (V 5 i)), some (vi a), some (vi (V 6 i - a)), some (vi (lnV V i a (V 6 i - a) + 1)), some (vi (-9)), some (vi y), none, none, none, none] [] m n post) 0 (V 6 i - a - 1) (by omega) ?_ ?_
    · exact key rfl (Int.le_refl _)
    · intro e0 _
      have n0 : nb2 V T i a = 0 := e0
      refine b131_68 (by omega) (fun _ => b131_101 (by omega) (fun u => absurd u (by omega)) (fun _ => b131_106 (K0 ?_ m _ FrF.refl h1 (GdL.one g1) hT))) (fun u => absurd u (by omega))
      unfold placeB
      rw [if_pos z3, if_pos n0]
    · intro y y1 y2 ih e0 _
      have ez : y.toNat = (y - 1).toNat + 1 := by omega
      have ey : (((y - 1).toNat : Nat) : Int) + 1 = y := by omega
      have lY := lb a y (by omega) (by omega) (by omega)
      refine b131_68 (by omega) (fun u => absurd y1 u) (fun _ => b131_73 (r_lnV hP hW hi (by omega) (by omega) (by omega) (b131_83 (r_pgV (ex := -1) (T := T) hP hW hi ⟨by omega, by omega⟩ (ir (by omega) (by omega)) (fun q q0 => by omega) (fun q q0 q1 q2 _ => pgT q q0 q1 q2) (fun u => ?_) (fun u => ?_)))))
      · have st := ih (by
          rw [e0, ez]
          conv => lhs; unfold nbF
          rw [ey, if_neg (fun v => v u)]) (by omega)
        exact b131_90 (by omega) (fun v => absurd rfl v) (fun _ => b131_95 st)
      · have qb := plQ_gd (T := T) (s := lnV V i a y + 2) (ex := -1) w0 h5 u
        have n2 : nb2 V T i a = y := by
          rw [e0, ez]
          conv => lhs; unfold nbF
          rw [ey, if_pos (show (pl2 V T i a y).1 ≠ -1 from u)]
        have g2 := pl2_gd (T := T) (a := a) (b := y) w0 w2.2 h5 ⟨by omega, by omega⟩ ⟨by omega, by omega⟩ u
        have pC : placeB V T i a = placeC V T i a y := by
          unfold placeB
          rw [if_pos z3, if_neg (by omega), n2]
        refine b131_90 (by omega) (fun _ => b131_101 (by omega) (fun _ => b131_108 (r_lnV hP hW hi (by omega) (by omega) (by omega) (b131_116 (r_pgV (ex := -1) (T := T) hP hW hi ⟨by omega, by omega⟩ (ir (by omega) (by omega)) (fun q q0 => by omega) (fun q q0 q1 q2 _ => pgT q q0 q1 q2) (fun v => absurd v u) (fun _ => b131_129 (r_gapV (T := T) hP hW qb.1 ⟨by omega, by omega⟩ (pgT _ qb.1.1 qb.1.2 qb.2.1) (fun v => absurd v qb.2.2.2) (fun _ _ => b131_143 (r_put (x := pl2 V T i a y) ⟨hi.1, by omega⟩ h1 (by simp) (gp_b w g2.1) (fun m2 f2 p2 t2 => b131_151 ?_))))))))) (fun v => absurd y1 v)) (fun v => absurd v (by omega))
        have hP2 : PRel V (m2 26 0) := by rw [f2.1 26 (by omega) (by omega)]; exact hP
        have hT2 := hT.put t2
        have gd2 := GdL.two g1 g2.1 (fun e => g2.2 e.symm)
        have lZ := lb (a + y) (V 6 i - (a + y)) (by omega) (by omega) (by omega)
        have pgT2 : ∀ q, 0 ≤ q → q < V 3 0 → q ≠ V 5 i → q ≠ (pl2 V T i a y).1 → ∀ c j, 0 ≤ c → c < 4 → 0 ≤ j → j < 60 → (Tm m2 (q * 4 + c) j ↔ T (q * 4 + c) j) := fun q q0 q1 qn qm => tr_pg w gd2.2.1 hT2 ⟨q0, q1⟩ (fun x hx => by
          simp only [List.mem_cons, List.not_mem_nil, or_false] at hx
          rcases hx with rfl | rfl
          · exact fun e => qn e.symm
          · exact fun e => qm e.symm)
        rw [show V 6 i - a - y = V 6 i - (a + y) by omega]
        refine r_lnV hP2 hW hi (by omega) (by omega) (by omega) (b131_165 (r_pgV (ex := (pl2 V T i a y).1) (T := T) hP2 hW hi ⟨by omega, by omega⟩ (ir (by omega) (by omega)) (fun q q0 => Iff.rfl) (fun q q0 q1 q2 q3 => pgT2 q q0 q1 q2 q3) (fun v => ?_) (fun v => ?_)))
        · refine b131_178 (by omega) (fun x => absurd rfl x) (fun _ => b131_187 (K0 ?_ m2 _ f2 p2 gd2 hT2))
          rw [pC]
          unfold placeC
          rw [if_pos (show (pl3 V T i (a + y) (pl2 V T i a y).1).1 = -1 from v)]
        · have g3 := pl3_gd (T := T) (a := a + y) (ex := (pl2 V T i a y).1) w0 w2.2 h5 h6.2 ⟨by omega, by omega⟩ v
          have qb3 := plQ_gd (T := T) (s := lnV V i (a + y) (V 6 i - (a + y)) + 1) (ex := (pl2 V T i a y).1) w0 h5 v
          refine b131_178 (by omega) (fun _ => b131_189 (r_gapV (T := T) hP2 hW qb3.1 ⟨by omega, by omega⟩ (pgT2 _ qb3.1.1 qb3.1.2 qb3.2.1 qb3.2.2.1) (fun x => absurd x qb3.2.2.2) (fun _ _ => b131_201 ?_))) (fun x => absurd x (by omega))
          rw [show V 6 i - a - y = V 6 i - (a + y) by omega]
          refine r_put (x := pl3 V T i (a + y) (pl2 V T i a y).1) ⟨hi.1, by omega⟩ p2 (by simp) (gp_b w g3.1) (fun m3 f3 p3 t3 => b131_215 ?_)
          have pD : placeB V T i a = [pl1 V T i a, pl2 V T i a y, pl3 V T i (a + y) (pl2 V T i a y).1] := by
            rw [pC]
            unfold placeC
            rw [if_neg (show ¬ (pl3 V T i (a + y) (pl2 V T i a y).1).1 = -1 from v)]
          refine K1 (by rw [pD]; simp) m3 (f2.trans f3) ?_ ?_
          · rw [pD]; exact p3
          · rw [pD]; exact hT2.put t3
  · -- two pieces
    have z3 : ¬ (pl3 V T i a (-1)).1 = -1 := z
    have g3 := pl3_gd (T := T) (a := a) (ex := -1) w0 w2.2 h5 h6.2 ⟨by omega, by omega⟩ z3
    have qb := plQ_gd (T := T) (s := lnV V i a (V 6 i - a) + 1) (ex := -1) w0 h5 z
    refine b131_31 (by omega) (fun u => absurd u (by omega)) (fun _ => b131_40 (r_gapV (T := T) hP hW qb.1 ⟨by omega, by omega⟩ (pgT _ qb.1.1 qb.1.2 qb.2.1) (fun v => absurd v qb.2.2.2) (fun _ _ => b131_52 (r_put (x := pl3 V T i a (-1)) ⟨hi.1, by omega⟩ h1 (by simp) (gp_b w g3.1) (fun m2 f2 p2 t2 => b131_60 ?_)))))
    have pD : placeB V T i a = [pl1 V T i a, pl3 V T i a (-1)] := by
      unfold placeB
      rw [if_neg z3]
    refine K1 (by rw [pD]; simp) m2 f2 ?_ ?_
    · rw [pD]; exact p2
    · rw [pD]; exact hT.put t2
set_option maxHeartbeats 8000000 in
theorem r_places {Γ : GG} {d : Nat} {m : MI} {n : ML} {post : PO} {i t : Int} {V : Nat → Int → Int} {T : Int → Int → Prop} (hP : PRel V (m 26 0)) (hW : PWf V t) (hi : 0 ≤ i ∧ i < V 3 3) (h0 : m 32 0 (20 * i) = 0) (hT : TR m T)
    (K1 : placeF V T i ≠ [] → ∀ m', FrF m m' i → PutR (m' 32 0) i (placeF V T i) → TR m' (fun c l => T c l ∨ OnL (placeF V T i) c l) → post (some (vi 1)) m' n)
    (K0 : placeF V T i = [] → ∀ m' L, FrF m m' i → PutR (m' 32 0) i L → GdL V T L → TR m' (fun c l => T c l ∨ OnL L c l) → post (some (vi 0)) m' n) : CM Γ (d + 4) 132 [vr 25 0, vi i] m n post := by
  have w := hW.1
  have w0 := w.1
  have w1 := w.2.1
  have w2 := w.2.2.1
  have w3 := w.2.2.2.1
  have hs := hW.2.1 i hi.1 hi.2
  have h5 := hs.2.1
  have h6 := hs.2.2.1
  have sR := (hP.2 i hi.1 hi.2).1
  have s4 := sR.2.2.2.2.1
  have s1 := sR.2.1
  have lb : ∀ x y, 0 ≤ x → 0 ≤ y → x + y ≤ V 6 i → y ≤ lnV V i x y ∧ lnV V i x y ≤ 240 := fun x y x0 y0 xy => by
    have := lnV_bd hs x0 y0 xy
    omega
  have hT' : ∀ q, 0 ≤ q → q < V 3 0 → ∀ c j, 0 ≤ c → c < 4 → 0 ≤ j → j < 60 → (Tm m (q * 4 + c) j ↔ T (q * 4 + c) j) := fun q q0 q1 c j c0 c1 j0 j1 => hT _ j (by omega) (by omega) j0 j1
  refine e132 (b132_0 (r_of ⟨hi.1, by omega⟩ (by omega) ?_))
  rw [s1]
  refine b132_6 (r_of ⟨hi.1, by omega⟩ (by omega) ?_)
  rw [s4]
  have lA := lb 0 (V 6 i) (by omega) (by omega) (by omega)
  refine b132_13 (r_lnV hP hW hi (by omega) (by omega) (by omega) (b132_21 (r_gapV (T := T) hP hW h5 ⟨by omega, by omega⟩ (hT' _ h5.1 h5.2) (fun z => ?_) (fun z zb => ?_))))
  · refine b132_30 (by omega) (fun _ => b132_54 ?_) (fun u => absurd rfl u)
    have key := down_ind (P := fun y => nb1 V T i = nbF (fun b => (pl1 V T i b).2.1 ≠ -1) y.toNat → y ≤ V 6 i - 1 → AM Γ (d + 4) 132 57 [some (vr 25 0), some (vi i), some (vi (V 5 i)), some (vi y), some (vi (lnV V i 0 (V 6 i))), none] [] m n post) 0 (V 6 i - 1) (by omega) ?_ ?_
    · exact key rfl (Int.le_refl _)
    · intro e0 _
      have n0 : nb1 V T i = 0 := e0
      refine b132_57 (by omega) (fun _ => b132_86 (by omega) (fun u => absurd u (by omega)) (fun _ => b132_90 (K0 ?_ m _ FrF.refl (PutR.nil h0) GdL.nil hT.nil))) (fun u => absurd u (by omega))
      unfold placeF
      rw [if_pos z, if_pos n0]
    · intro y y1 y2 ih e0 _
      have ez : y.toNat = (y - 1).toNat + 1 := by omega
      have ey : (((y - 1).toNat : Nat) : Int) + 1 = y := by omega
      have lY := lb 0 y (by omega) (by omega) (by omega)
      refine b132_57 (by omega) (fun u => absurd y1 u) (fun _ => b132_61 (r_lnV hP hW hi (by omega) (by omega) (by omega) (b132_70 (r_gapV (T := T) hP hW h5 ⟨by omega, by omega⟩ (hT' _ h5.1 h5.2) (fun u => ?_) (fun u ub => ?_)))))
      · have st := ih (by
          rw [e0, ez]
          conv => lhs; unfold nbF
          rw [ey, if_neg (fun v => v u)]) (by omega)
        exact b132_75 (by omega) (fun v => absurd rfl v) (fun _ => b132_80 st)
      · have n1 : nb1 V T i = y := by
          rw [e0, ez]
          conv => lhs; unfold nbF
          rw [ey, if_pos (show (pl1 V T i y).2.1 ≠ -1 from u)]
        have g1 := pl1_gd (T := T) (a := y) w2.2 h5 ⟨by omega, by omega⟩ u
        have pB : placeF V T i = placeB V T i y := by
          unfold placeF
          rw [if_pos z, if_neg (by omega), n1]
        rw [pB] at K1 K0
        refine b132_75 (by omega) (fun _ => b132_86 (by omega) (fun _ => b132_92 (r_lnV hP hW hi (by omega) (by omega) (by omega) (b132_99 (r_gapV (T := T) hP hW h5 ⟨by omega, by omega⟩ (hT' _ h5.1 h5.2) (fun v => absurd v u) (fun _ _ => b132_113 (r_put (x := pl1 V T i y) ⟨hi.1, by omega⟩ (PutR.nil h0) (by simp) (gp_b w g1) (fun m2 f2 p2 t2 => b132_120 ?_))))))) (fun v => absurd y1 v)) (fun v => absurd v (by omega))
        have hP2 : PRel V (m2 26 0) := by rw [f2.1 26 (by omega) (by omega)]; exact hP
        refine r_continues hP2 hW hi ⟨by omega, by omega⟩ g1 p2 (hT.nil.put t2) (fun v m3 f3 p3 t3 => b132_127 (Or.inr rfl) (K1 v m3 (f2.trans f3) p3 t3)) (fun v m3 L f3 p3 g3 t3 => b132_127 (Or.inl rfl) (K0 v m3 L (f2.trans f3) p3 g3 t3))
  · have pD : placeF V T i = [(V 5 i, plG V T (V 5 i) (lnV V i 0 (V 6 i)), lnV V i 0 (V 6 i), 0, V 6 i)] := by
      unfold placeF
      rw [if_neg z]
    have gd := (placeF_gd (T := T) w0 w2.2 h5 h6).2.1
    rw [pD] at gd K1
    have g1 := gd _ (List.mem_cons_self)
    refine b132_30 (by omega) (fun u => absurd u (by omega)) (fun _ => b132_35 (r_gapV (T := T) hP hW h5 ⟨by omega, by omega⟩ (hT' _ h5.1 h5.2) (fun v => absurd v z) (fun _ _ => b132_45 (r_put (x := (V 5 i, plG V T (V 5 i) (lnV V i 0 (V 6 i)), lnV V i 0 (V 6 i), 0, V 6 i)) ⟨hi.1, by omega⟩ (PutR.nil h0) (by simp) (gp_b w g1) (fun m2 f2 p2 t2 => b132_52 (K1 (by simp) m2 f2 p2 (hT.nil.put t2)))))))
