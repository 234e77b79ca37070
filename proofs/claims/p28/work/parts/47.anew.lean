-- the class places a story
/-- only a story's row of an edition changes -/
def FrE (m m' : MI) (e i : Int) : Prop := (∀ k r, ¬ (r = e ∧ (k = 11 ∨ 13 ≤ k ∧ k ≤ 18)) → m' k r = m k r) ∧ (∀ j, j ≠ i → m' 11 e j = m 11 e j) ∧ ∀ k, 13 ≤ k → k ≤ 18 → ∀ z, ¬ (i * 3 ≤ z ∧ z < i * 3 + 3) → m' k e z = m k e z
theorem FrE.add {m m1 m2 : MI} {e i pg gp sz fi pa : Int} (h : FrE m m1 e i) (ha : Added m1 m2 e i pg gp sz fi pa) (hc : 0 ≤ m1 11 e i ∧ m1 11 e i ≤ 2) : FrE m m2 e i :=
  ⟨fun k r z => by rw [ha.1 k r z, h.1 k r z], fun j z => by rw [ha.2.1 j, if_neg z, h.2.1 j z], fun k k1 k2 z z1 => by rw [ha.2.2.1 k k1 k2 z (by omega), h.2.2 k k1 k2 z z1]⟩
theorem FrE.set {m m1 : MI} {e i v : Int} (h : FrE m m1 e i) : FrE m (up m1 11 e i v) e i :=
  ⟨fun k r z => by rw [up_ne (fun y => z (by omega)), h.1 k r z], fun j z => by rw [up_rd, if_neg (fun u => z u.2.2), h.2.1 j z], fun k k1 k2 z z1 => by rw [up_k (by omega), h.2.2 k k1 k2 z z1]⟩
theorem Added.at {m m' : MI} {e i pg gp sz fi pa k : Int} (h : Added m m' e i pg gp sz fi pa) (hk : m 11 e i = k) : m' 11 e i = k + 1 ∧ PcAt m' e i k (pg, gp, sz, fi, pa) := by
  obtain ⟨h1, h2, h3, h4, h5, h6, h7, h8, h9⟩ := h
  rw [hk] at h4 h5 h6 h7 h8 h9
  exact ⟨by rw [h2 i, if_pos rfl, hk], h4, h5, h6, h7, h8, h9⟩
theorem Added.keep {m m' : MI} {e i pg gp sz fi pa k : Int} {x : Pc} (h : Added m m' e i pg gp sz fi pa) (hk : k ≠ m 11 e i) (hx : PcAt m e i k x) : PcAt m' e i k x := by
  obtain ⟨h1, h2, h3, h4⟩ := h
  unfold PcAt at hx ⊢
  rw [h3 13 (by omega) (by omega) _ (by omega), h3 14 (by omega) (by omega) _ (by omega), h3 15 (by omega) (by omega) _ (by omega), h3 16 (by omega) (by omega) _ (by omega), h3 17 (by omega) (by omega) _ (by omega), h3 18 (by omega) (by omega) _ (by omega)]
  exact hx
theorem pl_congr {V V' : Nat → Int → Int} (h3 : V' 3 = V 3) (h5 : V' 5 = V 5) (h6 : V' 6 = V 6) (h7 : V' 7 = V 7) : lnV V' = lnV V ∧ plG V' = plG V ∧ plQ V' = plQ V ∧ pl1 V' = pl1 V ∧ pl2 V' = pl2 V ∧ pl3 V' = pl3 V ∧ nb2 V' = nb2 V ∧ nb1 V' = nb1 V := by
  have hl : lnV V' = lnV V := by funext a b c; unfold lnV; rw [h7]
  have hg : plG V' = plG V := by funext a b c; unfold plG; rw [h3]
  have hq : plQ V' = plQ V := by funext a b c e; unfold plQ; rw [h3, h5, hg]
  have e1 : pl1 V' = pl1 V := by funext a b c; unfold pl1; rw [h5, hg, hl]
  have e2 : pl2 V' = pl2 V := by funext a b c f; unfold pl2; rw [hq, hg, hl]
  have e3 : pl3 V' = pl3 V := by funext a b c f; unfold pl3; rw [hq, hg, hl, h6]
  exact ⟨hl, hg, hq, e1, e2, e3, by funext a b c; unfold nb2; rw [e2, h6], by funext a b; unfold nb1; rw [e1, h6]⟩
set_option maxHeartbeats 4000000 in
theorem c_placeAnew {Γ : GG} {d : Nat} {m : MI} {n : ML} {post : PO} {p e i P K H h : Int} {T : Int → Int → Prop} (hi : 0 ≤ i ∧ i < 12) (h6 : 1 ≤ m 6 p i ∧ m 6 p i ≤ 8) (hl : ∀ j, 0 ≤ j → j < m 6 p i → 0 ≤ m 7 p (i * 8 + j) ∧ m 7 p (i * 8 + j) ≤ 30) (hP : m 3 p 0 = P) (hK3 : m 3 p 1 = K) (hH3 : m 3 p 2 = H) (hh : m 5 p i = h) (p0 : 2 ≤ P ∧ P ≤ 5) (h0 : 0 ≤ h ∧ h < P) (hk : m 22 0 0 = K) (hH : m 22 0 1 = H) (k0 : 1 ≤ K ∧ K ≤ 4) (H0 : 1 ≤ H ∧ H ≤ 60) (hA : AllL n H) (hT : TB n T)
    (Kk : ∀ m', FrE m m' e i → PutL m' e i (placeF (Vw m p) T i) → post none m' n) : CM Γ (d + 5) 20 [vr 21 0, vr 3 p, vr 10 e, vi i] m n post := by
  have frV : ∀ mm : MI, FrE m mm e i → mm 3 p = m 3 p ∧ mm 5 p = m 5 p ∧ mm 6 p = m 6 p ∧ mm 7 p = m 7 p ∧ mm 22 0 = m 22 0 := fun mm f => ⟨f.1 3 p (by omega), f.1 5 p (by omega), f.1 6 p (by omega), f.1 7 p (by omega), f.1 22 0 (by omega)⟩
  -- the two ends
  have lose : ∀ (mm : MI) (a y : Int) u, FrE m mm e i → placeF (Vw m p) T i = [] → 0 ≤ a → a < m 6 p i → AM Γ (d + 5) 20 66 [some (vr 21 0), some (vr 3 p), some (vr 10 e), some (vi i), some (vi (m 6 p i)), some (vi a), some (vi y), u] [] mm n post := fun mm a y u f z a0 a1 => by
    refine b20_66 (by omega) (by omega) (fun w => absurd a1 w) (fun _ => b20_73 hi (b20_80 (Kk _ f.set ?_)))
    rw [z]
    show up mm 11 e i 0 11 e i = 0
    rw [up_rd, if_pos ⟨rfl, rfl, rfl⟩]
  have win : ∀ (mm : MI) (y : Int) u, FrE m mm e i → PutL mm e i (placeF (Vw m p) T i) → AM Γ (d + 5) 20 66 [some (vr 21 0), some (vr 3 p), some (vr 10 e), some (vi i), some (vi (m 6 p i)), some (vi (m 6 p i)), some (vi y), u] [] mm n post := fun mm y u f z =>
    b20_66 (by omega) (by omega) (fun _ => b20_80 (Kk mm f z)) (fun w => absurd w (by omega))
  refine e20 (b20_0 hi (b20_12 hi ?_))
  rw [up_k (show (6 : Nat) ≠ 11 by omega)]
  generalize hm1 : up m 11 e i 0 = m1
  have f1 : FrE m m1 e i := by
    rw [← hm1]
    exact FrE.set ⟨fun _ _ _ => rfl, fun _ _ => rfl, fun _ _ _ _ _ => rfl⟩
  have c1 : m1 11 e i = 0 := by rw [← hm1, up_rd, if_pos ⟨rfl, rfl, rfl⟩]
  obtain ⟨v3, v5, v6, v7, v22⟩ := frV m1 f1
  have pc1 : placeF (Vw m1 p) T i = placeF (Vw m p) T i := placeF_congr v3 v5 v6 v7
  have nf := nb_first (m := m1) (T := T) (e := e) (p := p) (i := i) (K := K) (H := H) (P := P) (h := h) (by rw [v3, hK3]) (by rw [v3, hH3]) (by rw [v5, hh]) h0 c1 (by rw [v6]; omega)
  refine b20_21 (by omega) (fun w => absurd w (by omega)) (fun _ => b20_27 (by omega) (by omega) (fun w => absurd w (by omega)) (fun _ => b20_34 (c_placeNextPiece (P := P) (K := K) (H := H) (h := h) hi (by omega) (by rw [v6]; omega) (by rw [v6, v7]; exact hl) (by omega) (fun k k1 k2 => by omega) (by rw [v3, hP]) (by rw [v5, hh]) p0 h0 (by rw [v22, hk]) (by rw [v22, hH]) k0 H0 hA hT (fun g _ => ?_) (fun b q m2 g1 _ g3 g4 g5 g6 g7 => ?_))))
  · -- nothing on the home page
    have g' := g (by omega)
    rw [nf] at g'
    refine b20_43 (by omega) (fun w => absurd rfl w) (fun _ => b20_50 (lose m1 0 _ _ f1 ?_ (by omega) (by omega)))
    rw [← pc1]
    unfold placeF
    by_cases z : plG (Vw m1 p) T (Vw m1 p 5 i) (lnV (Vw m1 p) i 0 (Vw m1 p 6 i)) = -1
    · rw [if_pos z] at g'
      rw [if_pos z, if_pos g']
    · rw [if_neg z, v6] at g'
      omega
  · rw [nf] at g1
    have g1' := g1 (by omega)
    rw [v6, Int.sub_zero] at g4
    have hq := pgN_0 (m := m1) (T := T) (e := e) (p := p) (i := i) (K := K) (H := H) (P := P) (h := h) (b := b) h0 c1
    rw [← g5] at hq
    have qh : q = h := by
      by_cases z : gapF T K H h (szP m1 p i 0 b) = -1
      · rw [if_pos z] at hq; exact absurd hq g6
      · rw [if_neg z] at hq; exact hq
    subst qh
    obtain ⟨a1, a2⟩ := g7.at c1
    have f2 := f1.add g7 (by omega)
    obtain ⟨w3, w5, w6, w7, w22⟩ := frV m2 f2
    obtain ⟨y1, y2, y3, y4, y5, y6, y7, y8⟩ := pl_congr (V := Vw m p) (V' := Vw m1 p) v3 v5 v6 v7
    obtain ⟨x1, x2, x3, x4, x5, x6, x7, x8⟩ := pl_congr (V := Vw m p) (V' := Vw m2 p) w3 w5 w6 w7
    have V5 : Vw m1 p 5 i = Vw m p 5 i := by dsimp only [Vw]; rw [v5]
    have V6 : Vw m1 p 6 i = Vw m p 6 i := by dsimp only [Vw]; rw [v6]
    rw [y1, y2, V5, V6, y8, v6] at g1'
    have hV5 : Vw m p 5 i = q := hh
    have hV6 : Vw m p 6 i = m 6 p i := rfl
    have eG : ∀ r s, gapF T K H r s = plG (Vw m p) T r s := fun r s => by
      unfold plG
      dsimp only [Vw]
      rw [hK3, hH3]
    rw [szP_0 (by rw [v6]; omega), y1, v6, eG] at a2
    have nb := nbF_bd (ok := fun a => (pl1 (Vw m p) T i a).2.1 ≠ -1) (Vw m p 6 i - 1).toNat
    have nb' : nb1 (Vw m p) T i ≤ m 6 p i - 1 := by
      have : nb1 (Vw m p) T i ≤ ((Vw m p 6 i - 1).toNat : Int) := nb.1.2
      rw [hV6] at this
      omega
    refine b20_43 (by omega) (fun _ => b20_53 ?_) (fun w => absurd w (by omega))
    rw [Int.zero_add]
    by_cases full : b = m 6 p i
    · -- one piece
      have z : ¬ plG (Vw m p) T (Vw m p 5 i) (lnV (Vw m p) i 0 (Vw m p 6 i)) = -1 := fun z => by
        rw [if_pos z] at g1'
        omega
      refine b20_21 (by omega) (fun w => absurd w (by omega)) (fun _ => b20_27 (by omega) (by omega) (fun _ => ?_) (fun w => absurd w (by omega)))
      rw [full]
      refine win m2 _ _ f2 ?_
      unfold placeF
      rw [if_neg z]
      refine ⟨by omega, ?_⟩
      rw [if_pos full, full] at a2
      rw [hV5, hV6]
      exact a2
    · -- it goes on elsewhere
      have z : plG (Vw m p) T (Vw m p 5 i) (lnV (Vw m p) i 0 (Vw m p 6 i)) = -1 := by
        by_cases z : plG (Vw m p) T (Vw m p 5 i) (lnV (Vw m p) i 0 (Vw m p 6 i)) = -1
        · exact z
        · rw [if_neg z] at g1'
          omega
      rw [if_pos z] at g1'
      rw [if_neg full] at a2
      have pF : placeF (Vw m p) T i = placeB (Vw m p) T i b := by
        unfold placeF
        rw [if_pos z, if_neg (by omega), g1']
      have a2' : PcAt m2 e i 0 (pl1 (Vw m p) T i b) := by
        unfold pl1
        rw [hV5]
        exact a2
      have hx : m2 13 e (i * 3 + 0) = q := a2.1
      have ns := nb_second (m := m2) (T := T) (e := e) (p := p) (i := i) (K := K) (H := H) (P := P) (h := q) (a := b) (by rw [w3, hK3]) (by rw [w3, hH3]) (by rw [w3, hP]) (by rw [w5, hh]) p0 h0 (by omega) (by rw [w6]; omega) a1 hx
      rw [x6, x7, w6] at ns
      refine b20_21 (by omega) (fun w => absurd w (by omega)) (fun _ => b20_27 (by omega) (by omega) (fun w => absurd w (by omega)) (fun _ => b20_34 (c_placeNextPiece (P := P) (K := K) (H := H) (h := q) hi (by omega) (by rw [w6]; omega) (by rw [w6, w7]; exact hl) (by omega) (fun k k1 k2 => by rw [show k = 0 by omega, hx]; exact ir (by omega) (by omega)) (by rw [w3, hP]) (by rw [w5, hh]) p0 h0 (by rw [w22, hk]) (by rw [w22, hH]) k0 H0 hA hT (fun k _ => ?_) (fun b2 q2 m3 k1 _ k3 k4 k5 k6 k7 => ?_))))
      · have k' := k (by omega)
        rw [w6, ns] at k'
        refine b20_43 (by omega) (fun w => absurd rfl w) (fun _ => b20_50 (lose m2 b _ _ f2 ?_ (by omega) (by omega)))
        rw [pF]
        unfold placeB
        by_cases u : (pl3 (Vw m p) T i b (-1)).1 = -1
        · rw [if_pos u] at k'
          rw [if_pos u, if_pos k']
        · rw [if_neg u] at k'
          omega
      · have k1' := k1 (by omega)
        rw [w6, ns] at k1'
        rw [w6] at k4
        obtain ⟨b1, b2'⟩ := k7.at a1
        have f3 := f2.add k7 (by omega)
        have p1 := k7.keep (k := 0) (by omega) a2'
        have hq2 := pg_next (m := m2) (T := T) (e := e) (p := p) (i := i) (K := K) (H := H) (P := P) (h := q) (a := b) (b := b2) (ex := -1) (by rw [w3, hK3]) (by rw [w3, hH3]) (by rw [w3, hP]) (by rw [w5, hh]) p0 h0 (by omega) (by rw [w6]; omega) ⟨0, by omega, by omega, hx⟩ (fun q' q0 qh => ⟨fun ⟨k, k1, k2, k3⟩ => by
          have : k = 0 := by omega
          rw [this, hx] at k3
          omega, fun z => by omega⟩)
        rw [← k5, x1, x3, w6] at hq2
        rw [szP_1 (by omega) (by rw [w6]; omega), x1, w6, eG] at b2'
        have nbb := nbF_bd (ok := fun c => (pl2 (Vw m p) T i b c).1 ≠ -1) (Vw m p 6 i - b - 1).toNat
        have nbb' : nb2 (Vw m p) T i b ≤ m 6 p i - b - 1 := by
          have : nb2 (Vw m p) T i b ≤ ((Vw m p 6 i - b - 1).toNat : Int) := nbb.1.2
          rw [hV6] at this
          omega
        refine b20_43 (by omega) (fun _ => b20_53 ?_) (fun w => absurd w (by omega))
        by_cases full2 : b + b2 = m 6 p i
        · -- two pieces
          have u : ¬ (pl3 (Vw m p) T i b (-1)).1 = -1 := fun u => by
            rw [if_pos u] at k1'
            omega
          rw [if_pos full2] at hq2 b2'
          refine b20_21 (by omega) (fun w => absurd w (by omega)) (fun _ => b20_27 (by omega) (by omega) (fun _ => ?_) (fun w => absurd w (by omega)))
          rw [full2]
          refine win m3 _ _ f3 ?_
          rw [pF]
          unfold placeB
          rw [if_neg u]
          refine ⟨by omega, p1, ?_⟩
          have eb : b2 = Vw m p 6 i - b := by rw [hV6]; omega
          unfold pl3
          rw [← eb, ← hq2]
          exact b2'
        · -- three, or none
          have u : (pl3 (Vw m p) T i b (-1)).1 = -1 := by
            by_cases u : (pl3 (Vw m p) T i b (-1)).1 = -1
            · exact u
            · rw [if_neg u] at k1'
              omega
          rw [if_pos u] at k1'
          rw [if_neg full2] at hq2 b2'
          have pG : placeF (Vw m p) T i = placeC (Vw m p) T i b b2 := by
            rw [pF]
            unfold placeB
            rw [if_pos u, if_neg (by omega), k1']
          have p2 : PcAt m3 e i 1 (pl2 (Vw m p) T i b b2) := by
            unfold pl2
            rw [← hq2]
            exact b2'
          have e2 : (pl2 (Vw m p) T i b b2).1 = q2 := hq2.symm
          obtain ⟨t3, t5, t6, t7, t22⟩ := frV m3 f3
          obtain ⟨r1, r2, r3, r4, r5, r6, r7, r8⟩ := pl_congr (V := Vw m p) (V' := Vw m3 p) t3 t5 t6 t7
          have hx3 : m3 13 e (i * 3 + 0) = q := p1.1.trans hV5
          have hx4 : m3 13 e (i * 3 + 1) = q2 := p2.1.trans e2
          have qb : 0 ≤ q2 ∧ q2 < P := by
            have := pgF_bd (G := fun q => plG (Vw m p) T q (lnV (Vw m p) i b b2 + 2)) (ex := fun q => q = -1) (P := Vw m p 3 0) (h := Vw m p 5 i) (by show 0 < m 3 p 0; omega) (Vw m p 3 0 - 1).toNat 1
            have e : q2 = pgF (fun q => plG (Vw m p) T q (lnV (Vw m p) i b b2 + 2)) (fun q => q = -1) (Vw m p 3 0) (Vw m p 5 i) (Vw m p 3 0 - 1).toNat 1 := hq2
            rw [← e] at this
            rcases this with w | w
            · exact absurd w k6
            · have w1 := w.1
              have hv : Vw m p 3 0 = P := hP
              omega
          have hq3 := pg_next (m := m3) (T := T) (e := e) (p := p) (i := i) (K := K) (H := H) (P := P) (h := q) (a := b + b2) (b := m 6 p i - (b + b2)) (ex := q2) (by rw [t3, hK3]) (by rw [t3, hH3]) (by rw [t3, hP]) (by rw [t5, hh]) p0 h0 (by omega) (by rw [t6]; omega) ⟨0, by omega, by omega, hx3⟩ (fun q' q0 qh => ⟨fun ⟨k, k1, k2, k3⟩ => by
            rcases (show k = 0 ∨ k = 1 by omega) with e | e
            · rw [e, hx3] at k3; exact absurd k3.symm qh
            · rw [e, hx4] at k3; exact k3.symm, fun w => ⟨1, by omega, by omega, by rw [hx4, w]⟩⟩)
          rw [r1, r3, t6, if_pos (by omega)] at hq3
          have h3a : (pl3 (Vw m p) T i (b + b2) q2).1 = pgN m3 T e p i (b + b2) K H P q (m 6 p i - (b + b2)) := hq3.symm
          refine b20_21 (by omega) (fun w => absurd w (by omega)) (fun _ => b20_27 (by omega) (by omega) (fun w => absurd w (by omega)) (fun _ => b20_34 (c_placeNextPiece (P := P) (K := K) (H := H) (h := q) hi (by omega) (by rw [t6]; omega) (by rw [t6, t7]; exact hl) (by omega) (fun k k1 k2 => ?_) (by rw [t3, hP]) (by rw [t5, hh]) p0 h0 (by rw [t22, hk]) (by rw [t22, hH]) k0 H0 hA hT (fun _ l => ?_) (fun b3 q3 m4 _ l2 l3 l4 l5 l6 l7 => ?_))))
          · rcases (show k = 0 ∨ k = 1 by omega) with e | e
            · rw [e, hx3]; exact ir (by omega) (by omega)
            · rw [e, hx4]; exact ir (by omega) (by omega)
          · have l' := l (by omega)
            rw [t6] at l'
            refine b20_43 (by omega) (fun w => absurd rfl w) (fun _ => b20_50 (lose m3 (b + b2) _ _ f3 ?_ (by omega) (by omega)))
            rw [pG]
            unfold placeC
            rw [e2, if_pos (by rw [h3a]; exact l')]
          · have l2' := l2 (by omega)
            rw [t6] at l2'
            subst l2'
            obtain ⟨d1, d2⟩ := l7.at (k := 2) (by omega)
            have f4 := f3.add l7 (by omega)
            rw [szP_1 (by omega) (by rw [t6]; omega), r1, t6, if_pos (by omega), eG] at d2
            refine b20_43 (by omega) (fun _ => b20_53 (b20_21 (by omega) (fun _ => ?_) (fun w => absurd w (by omega)))) (fun w => absurd w (by omega))
            rw [show b + b2 + (m 6 p i - (b + b2)) = m 6 p i by omega]
            refine win m4 _ _ f4 ?_
            rw [pG]
            unfold placeC
            rw [e2, if_neg (by rw [h3a, ← l5]; exact l6)]
            refine ⟨by omega, l7.keep (k := 0) (by omega) p1, l7.keep (k := 1) (by omega) p2, ?_⟩
            unfold pl3
            rw [l5, hq3] at d2
            exact d2
