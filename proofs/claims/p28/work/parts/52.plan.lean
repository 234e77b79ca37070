-- the class's plan
theorem PutG.congr {E E' : Nat → Int → Int} {i : Int} {L : List Pc} (h : PutG E i L) (hl : L.length ≤ 3) (h11 : E' 11 i = E 11 i) (hk : ∀ k, 13 ≤ k → k ≤ 18 → ∀ z, i * 3 ≤ z → z < i * 3 + 3 → E' k z = E k z) : PutG E' i L := by
  refine ⟨by rw [h11]; exact h.1, fun k x hx => ?_⟩
  have hl2 : k < L.length := (List.getElem?_eq_some_iff.1 hx).1
  have g := h.2 k x hx
  unfold PcV at g ⊢
  rw [hk 13 (by omega) (by omega) _ (by omega) (by omega), hk 14 (by omega) (by omega) _ (by omega) (by omega), hk 15 (by omega) (by omega) _ (by omega) (by omega), hk 16 (by omega) (by omega) _ (by omega) (by omega), hk 17 (by omega) (by omega) _ (by omega) (by omega), hk 18 (by omega) (by omega) _ (by omega) (by omega)]
  exact g
theorem put_bd {E V : Nat → Int → Int} {i k : Int} {T : Int → Int → Prop} {t : Int} {L : List Pc} (hW : HWf V t) (hg : GdL V T L) (h : PutG E i L) (k0 : 0 ≤ k) (k1 : k < E 11 i) : (0 ≤ E 13 (i * 3 + k) ∧ E 13 (i * 3 + k) < V 3 0) ∧ (0 ≤ E 14 (i * 3 + k) ∧ E 14 (i * 3 + k) < V 3 1) ∧ (0 ≤ E 15 (i * 3 + k) ∧ 1 ≤ E 16 (i * 3 + k) ∧ E 15 (i * 3 + k) + E 16 (i * 3 + k) ≤ V 3 2) ∧ (0 ≤ E 17 (i * 3 + k) ∧ E 17 (i * 3 + k) ≤ 8) ∧ (1 ≤ E 18 (i * 3 + k) ∧ E 18 (i * 3 + k) ≤ 8) := by
  have hl : k.toNat < L.length := by
    have := h.1
    omega
  have ek : ((k.toNat : Nat) : Int) = k := by omega
  obtain ⟨g1, g2, g3, g4, g5, g6⟩ := h.2 k.toNat L[k.toNat] (List.getElem?_eq_getElem hl)
  obtain ⟨a1, a2, a3, a4, a5, a6⟩ := hg.2.1 L[k.toNat] (List.getElem_mem hl)
  rw [ek] at g1 g2 g3 g4 g5 g6
  have b1 := a3.1
  have b2 := a3.2.1
  rw [g1, g2, g3, g4, g5, g6]
  refine ⟨a1, ⟨by omega, a2.2⟩, ⟨b1, a4, b2⟩, a5, a6⟩
theorem put_b1 {m : MI} {e i t : Int} {V : Nat → Int → Int} {T : Int → Int → Prop} {L : List Pc} (hW : HWf V t) (hg : GdL V T L) (h : PutG (Vw m e) i L) : PcB1 m e i := by
  have e1 : m 11 e i = (L.length : Int) := h.1
  have e2 := hg.1
  refine ⟨⟨by omega, by omega⟩, fun k k0 k1 => ?_⟩
  have b := put_bd hW hg h k0 k1
  dsimp only [Vw] at b
  have w1 := hW.1
  have w2 := hW.2.1
  have w3 := hW.2.2.1
  omega
theorem put_pi {m : MI} {e i t : Int} {V : Nat → Int → Int} {T : Int → Int → Prop} {L : List Pc} (hW : HWf V t) (hg : GdL V T L) (h : PutG (Vw m e) i L) : PcI m e i := by
  have e1 : m 11 e i = (L.length : Int) := h.1
  have e2 := hg.1
  refine ⟨⟨by omega, by omega⟩, fun k k0 k1 => ?_⟩
  have b := put_bd hW hg h k0 k1
  dsimp only [Vw] at b
  have w1 := hW.1
  have w2 := hW.2.1
  have w3 := hW.2.2.1
  exact ⟨ir (by omega) (by omega), ir (by omega) (by omega), ir (by omega) (by omega), ir (by omega) (by omega)⟩
theorem old_pi {m : MI} {p i t : Int} {V : Nat → Int → Int} (hV : ∀ k, 3 ≤ k → k ≤ 18 → m k p = V k) (hW : HWf V t) (he : EWf V i) : PcI m p i := by
  unfold PcI
  rw [hV 11 (by omega) (by omega), hV 13 (by omega) (by omega), hV 14 (by omega) (by omega), hV 15 (by omega) (by omega), hV 17 (by omega) (by omega)]
  refine ⟨he.1, fun k k0 k1 => ?_⟩
  have b := ed_bd hW he k0 k1
  exact ⟨ir (by omega) (by omega), ir (by omega) (by omega), ir (by omega) (by omega), ir (by omega) (by omega)⟩
theorem old_b1 {m : MI} {p i t : Int} {V : Nat → Int → Int} (hV : ∀ k, 3 ≤ k → k ≤ 18 → m k p = V k) (hW : HWf V t) (he : EWf V i) : PcB1 m p i := by
  unfold PcB1
  rw [hV 11 (by omega) (by omega), hV 13 (by omega) (by omega), hV 14 (by omega) (by omega), hV 15 (by omega) (by omega), hV 16 (by omega) (by omega)]
  have e1 := he.1
  refine ⟨by omega, fun k k0 k1 => ?_⟩
  have b := ed_bd hW he k0 k1
  omega
/-- what the class's plan has made -/
def EdC (V E : Nat → Int → Int) : Prop := (E 10 0 = V 10 0 + 1 ∧ E 10 1 = V 3 0 ∧ E 10 2 = V 3 1 ∧ E 10 3 = V 3 2) ∧ (∀ i, 0 ≤ i → i < V 3 3 → V 8 i ≠ 0 → PutG E i (rsL V i) ∧ E 12 i = mvB V i) ∧ ∀ i, 0 ≤ i → i < 12 → ¬ (i < V 3 3 ∧ V 8 i ≠ 0) → E 11 i = -1 ∧ E 12 i = 0
/-- one turn of the class's -/
def PlI (V : Nat → Int → Int) (m : MI) (y : Int) (mm : MI) (nn : ML) : Prop := (∀ k r, ¬ (r = 8 ∧ 10 ≤ k ∧ k ≤ 18) → k ≠ 22 → k ≠ 24 → mm k r = m k r) ∧ (mm 22 0 0 = V 3 1 ∧ mm 22 0 1 = V 3 2) ∧ (∀ i, 0 ≤ i → i < V 3 3 → V 8 i ≠ 0 → mm 24 0 (ahV V i) = i) ∧ (mm 10 8 0 = V 10 0 + 1 ∧ mm 10 8 1 = V 3 0 ∧ mm 10 8 2 = V 3 1 ∧ mm 10 8 3 = V 3 2) ∧ AllL nn (V 3 2) ∧ TB nn (tkF V y.toNat) ∧ (∀ i, 0 ≤ i → i < V 3 3 → V 8 i ≠ 0 → ahV V i < y → PutG (Vw mm 8) i (rsL V i) ∧ mm 12 8 i = mvB V i) ∧ ∀ i, 0 ≤ i → i < 12 → ¬ (i < V 3 3 ∧ V 8 i ≠ 0 ∧ ahV V i < y) → mm 11 8 i = -1 ∧ mm 12 8 i = 0
set_option maxHeartbeats 4000000 in
theorem PlI.next {V : Nat → Int → Int} {m mm m4 : MI} {nn n5 : ML} {t y i : Int} (hW : PWf V t) (y0 : 0 ≤ y) (h : PlI V m y mm nn) (i0 : 0 ≤ i) (i1 : i < V 3 3) (i8 : V 8 i ≠ 0) (ia : ahV V i = y) (f4 : FrE mm m4 8 i) (p4 : PutG (Vw m4 8) i (rsL V i)) (a5 : n5 22 = nn 22) (t5 : ∀ c l, 0 ≤ c → c < 20 → 0 ≤ l → l < 64 → (bt (n5 23 c) l ↔ bt (nn 23 c) l ∨ OnP (Vw m4 8) i c l)) : PlI V m (y + 1) (up m4 12 8 i (mvB V i)) n5 := by
  obtain ⟨h1, h2, h3, h4, h5, h6, h7, h8⟩ := h
  have w3 := hW.1.2.2.2.1
  have fr : ∀ k r, ¬ (r = 8 ∧ (k = 11 ∨ k = 12 ∨ 13 ≤ k ∧ k ≤ 18)) → up m4 12 8 i (mvB V i) k r = mm k r := fun k r z => by
    rw [up_ne (fun q => z (by omega)), f4.1 k r (fun q => z (by omega))]
  have ub : ∀ j, up m4 12 8 i (mvB V i) 12 8 j = if j = i then mvB V i else mm 12 8 j := fun j => by
    rw [up_rd]
    by_cases q : j = i
    · rw [if_pos ⟨rfl, rfl, q⟩, if_pos q]
    · rw [if_neg (fun u => q u.2.2), if_neg q, f4.1 12 8 (by omega)]
  have uk : ∀ k, k ≠ 12 → up m4 12 8 i (mvB V i) k = m4 k := fun k z => up_k z
  have gl : ∀ j, 0 ≤ j → j < V 3 3 → (rsL V j).length ≤ 3 := fun j j0 j1 => (rs_gd hW ⟨j0, j1⟩).1
  refine ⟨fun k r z1 z2 z3 => ?_, ?_, fun j j0 j1 j8 => ?_, ?_, ?_, fun c l c0 c1 l0 l1 => ?_, fun j j0 j1 j8 ja => ?_, fun j j0 j1 jn => ?_⟩
  · rw [fr k r (fun q => z1 (by omega)), h1 k r z1 z2 z3]
  · rw [fr 22 0 (by omega)]; exact h2
  · rw [fr 24 0 (by omega)]; exact h3 j j0 j1 j8
  · rw [fr 10 8 (by omega)]; exact h4
  · unfold AllL
    rw [a5]
    exact h5
  · rw [t5 c l c0 c1 l0 (by omega), h6 c l c0 c1 l0 l1, show (y + 1).toNat = y.toNat + 1 by omega, tkF_next i0 i1 i8 (by omega), OnP_put p4]
  · rw [ub]
    by_cases q : j = i
    · subst q
      rw [if_pos rfl]
      refine ⟨p4.congr (gl j j0 j1) ?_ (fun k k1 k2 z z1 z2 => ?_), rfl⟩
      · dsimp only [Vw]; rw [uk 11 (by omega)]
      · dsimp only [Vw]; rw [uk k (by omega)]
    · rw [if_neg q]
      have jy : ahV V j < y := by
        have : ahV V j ≠ y := fun z => q (ah_inj (rk := V 4) ⟨j0, j1⟩ ⟨i0, i1⟩ j8 i8 (z.trans ia.symm))
        omega
      obtain ⟨g1, g2⟩ := h7 j j0 j1 j8 jy
      refine ⟨g1.congr (gl j j0 j1) ?_ (fun k k1 k2 z z1 z2 => ?_), g2⟩
      · dsimp only [Vw]; rw [uk 11 (by omega), f4.2.1 j q]
      · dsimp only [Vw]; rw [uk k (by omega), f4.2.2 k k1 k2 z (by omega)]
  · have q : j ≠ i := fun q => by subst q; exact jn ⟨i1, i8, by omega⟩
    rw [ub, if_neg q, uk 11 (by omega), f4.2.1 j q]
    exact h8 j j0 j1 (fun z => jn ⟨z.1, z.2.1, by omega⟩)
set_option maxHeartbeats 4000000 in
theorem c_plan {Γ : GG} {d : Nat} {m : MI} {n : ML} {post : PO} {p t : Int} {V : Nat → Int → Int} (hp : p ≠ 8) (vK : ∀ k, 3 ≤ k → k ≤ 18 → m k p = V k) (hW : PWf V t) (K : ∀ m' n', (∀ k r, ¬ (r = 8 ∧ 10 ≤ k ∧ k ≤ 18) → k ≠ 22 → k ≠ 24 → m' k r = m k r) → EdC V (Vw m' 8) → post none m' n') : CM Γ (d + 6) 17 [vr 21 0, vr 3 p, vr 10 8] m n post := by
  have w := hW.1
  obtain ⟨w0, w1, w2, w3, w4, w5⟩ := w
  have ab := alN_bd (al := V 8) (c := V 3 3) w3.1
  refine e17 (b17_0 (c_beginFor hp (fun m1 a1 a2 a3 a4 a5 a6 => b17_5 ?_)))
  have v1 : m1 3 p = V 3 := by rw [a1 3 p (by omega), vK 3 (by omega) (by omega)]
  rw [v1]
  refine c_makeBlank (by omega) (fun n1 A1 A2 => b17_20 ?_)
  generalize hm2 : up (up m1 22 0 0 (V 3 1)) 22 0 1 (V 3 2) = m2
  have f2 : ∀ k, k ≠ 22 → m2 k = m1 k := fun k z => by rw [← hm2, up_k z, up_k z]
  have g21 : m2 22 0 0 = V 3 1 := by rw [← hm2]; simp [up_rd]
  have g22 : m2 22 0 1 = V 3 2 := by rw [← hm2]; simp [up_rd]
  clear hm2
  have e3 : m2 3 p = V 3 := by rw [f2 3 (by omega), v1]
  have e4 : m2 4 p = V 4 := by rw [f2 4 (by omega), a1 4 p (by omega), vK 4 (by omega) (by omega)]
  have e8 : m2 8 p = V 8 := by rw [f2 8 (by omega), a1 8 p (by omega), vK 8 (by omega) (by omega)]
  refine c_putInOrder (by rw [e3]; omega) (by rw [e3]; omega) (fun j j0 j1 => ?_) (fun j j0 j1 => ?_) (fun m3 B1 B2 => b17_25 ?_)
  · rw [e3] at j1
    rw [e4]
    have := (hW.2.1 j j0 j1).1
    exact ir (by omega) (by omega)
  · rw [e3] at j1
    rw [e8]
    exact (hW.2.1 j j0 j1).2.2.2.1
  rw [e3, e4, e8] at B2
  rw [e3, e8]
  have key := up_ind (P := fun y => ∀ mm nn u, PlI V m y mm nn → AM Γ (d + 6) 17 29 [some (vr 21 0), some (vr 3 p), some (vr 10 8), some (vi (alN (V 8) (V 3 3))), some (vi y), u] [] mm nn post) 0 (alN (V 8) (V 3 3)) ab.1 ?_ ?_
  · refine key m3 n1 none ⟨fun k r z1 z2 z3 => ?_, ?_, fun i i0 i1 i8 => B2 i i0 i1 i8, ?_, ?_, fun c l c0 c1 l0 l1 => ?_, fun i i0 i1 i8 ia => ?_, fun i i0 i1 _ => ?_⟩
    · rw [B1 k z3, f2 k z2, a1 k r (fun q => z1 (by omega))]
    · rw [B1 22 (by omega)]; exact ⟨g21, g22⟩
    · rw [B1 10 (by omega), f2 10 (by omega)]
      rw [vK 10 (by omega) (by omega)] at a2
      rw [vK 3 (by omega) (by omega)] at a3 a4 a5
      exact ⟨a2, a3, a4, a5⟩
    · exact A1
    · rw [A2 c c0 c1]
      exact ⟨fun z => absurd z bt_zero, fun z => z.elim⟩
    · have := (ahN_bd (rk := V 4) (al := V 8) (i := i) w3.1).1
      exact absurd (show ahN (V 4) (V 8) (V 3 3) i < 0 from ia) (by omega)
    · rw [B1 11 (by omega), B1 12 (by omega), f2 11 (by omega), f2 12 (by omega)]
      exact a6 i i0 i1
  · intro mm nn u h
    refine b17_29 (by omega) (by omega) (fun _ => b17_108 (K mm nn h.1 ⟨h.2.2.2.1, fun i i0 i1 i8 => ?_, fun i i0 i1 jn => ?_⟩)) (fun z => absurd z (by omega))
    · exact h.2.2.2.2.2.2.1 i i0 i1 i8 (ah_top ⟨i0, i1⟩ i8)
    · exact h.2.2.2.2.2.2.2 i i0 i1 (fun z => jn ⟨z.1, z.2.1⟩)
  · intro y y1 y2 ih mm nn u h
    obtain ⟨i, i0, i1, i8, ia⟩ := ah_sur (rk := V 4) (al := V 8) (c := V 3 3) w3.1 y1 y2
    have h' := h
    obtain ⟨h1, h2, h3, h4, h5, h6, h7, h8⟩ := h'
    have mV : ∀ k, 3 ≤ k → k ≤ 18 → mm k p = V k := fun k k1 k2 => by rw [h1 k p (by omega) (by omega) (by omega), vK k k1 k2]
    have e24 : mm 24 0 y = i := by
      have := h3 i i0 i1 i8
      rw [show ahV V i = y from ia] at this
      exact this
    have hs := hW.2.1 i i0 i1
    have he := hW.2.2 i i0 (by omega)
    have hi : 0 ≤ i ∧ i < 12 := ⟨i0, by omega⟩
    have hg := rs_gd hW ⟨i0, i1⟩
    refine b17_29 (by omega) (by omega) (fun z => absurd y2 z) (fun _ => b17_35 (by omega) ?_)
    rw [e24]
    -- behind the placing
    have tail : ∀ m4, FrE mm m4 8 i → PutG (Vw m4 8) i (rsL V i) → AM Γ (d + 6) 17 75 [some (vr 21 0), some (vr 3 p), some (vr 10 8), some (vi (alN (V 8) (V 3 3))), some (vi y), some (vi i)] [] m4 nn post := by
      intro m4 f4 p4
      have m4V : ∀ k, 3 ≤ k → k ≤ 18 → m4 k p = V k := fun k k1 k2 => by rw [f4.1 k p (by omega), mV k k1 k2]
      refine b17_75 (c_takeLinesOf hi (put_b1 hW.1 hg p4) (fun n5 t1 t2 => b17_85 ?_))
      have mi := moved_iff (p := p) p4
      have hv : ∀ L, MvdL (Vw m4 p) i L ↔ MvdL V i L := fun L => by
        unfold MvdL
        rw [show Vw m4 p 11 = V 11 from m4V 11 (by omega) (by omega), show Vw m4 p 13 = V 13 from m4V 13 (by omega) (by omega), show Vw m4 p 14 = V 14 from m4V 14 (by omega) (by omega), show Vw m4 p 15 = V 15 from m4V 15 (by omega) (by omega), show Vw m4 p 17 = V 17 from m4V 17 (by omega) (by omega)]
      rw [hv] at mi
      have go : ∀ b, b = mvB V i → AM Γ (d + 6) 17 101 [some (vr 21 0), some (vr 3 p), some (vr 10 8), some (vi (alN (V 8) (V 3 3))), some (vi y), some (vi i)] [vi b, vi i, vr 12 8] m4 n5 post := by
        intro b hb
        have b01 := mvB_01 (V := V) (i := i)
        refine b17_101 hi (by rw [hb]; exact b01) ?_
        rw [hb]
        exact ih _ _ _ (h.next hW y1 i0 i1 i8 ia f4 p4 t1 t2)
      refine c_isMovedSince hi (put_pi hW.1 hg p4) (old_pi m4V hW.1 he) (fun q => go 1 ?_) (fun q => go 0 ?_)
      · unfold mvB; rw [if_pos (mi.1 q)]
      · unfold mvB; rw [if_neg (fun z => q (mi.2 z))]
    have rsE : rsL V i = nwL V (tkF V y.toNat) i := by
      unfold rsL
      rw [show ahV V i = y from ia]
    have sty : StayV mm nn p i ↔ StyS V (tkF V y.toNat) i := by
      unfold StayV StyS
      rw [mV 11 (by omega) (by omega), mV 9 (by omega) (by omega)]
      have ov : ∀ c l, OnP (Vw mm p) i c l ↔ OnP V i c l := fun c l => by
        unfold OnP
        rw [show Vw mm p 11 = V 11 from mV 11 (by omega) (by omega), show Vw mm p 13 = V 13 from mV 13 (by omega) (by omega), show Vw mm p 14 = V 14 from mV 14 (by omega) (by omega), show Vw mm p 15 = V 15 from mV 15 (by omega) (by omega), show Vw mm p 16 = V 16 from mV 16 (by omega) (by omega)]
      constructor
      · rintro ⟨q1, q2, q3⟩
        exact ⟨q1, q2, fun c l c0 c1 l0 l1 o z => q3 c l c0 c1 l0 l1 ((ov c l).2 o) ((h6 c l c0 c1 l0 l1).2 z)⟩
      · rintro ⟨q1, q2, q3⟩
        exact ⟨q1, q2, fun c l c0 c1 l0 l1 o z => q3 c l c0 c1 l0 l1 ((ov c l).1 o) ((h6 c l c0 c1 l0 l1).1 z)⟩
    refine c_staysInPlace hi (old_b1 mV hW.1 he) (fun q => ?_) (fun q => ?_)
    · -- it stays
      refine b17_51 (by omega) (fun z => absurd z (by omega)) (fun _ => b17_54 (c_keepPieces hp hi (fun m4 q1 q2 q3 => b17_64 (tail m4 ⟨q1, fun j z => by rw [q2, if_neg z], fun k k1 k2 z z1 => by rw [q3 k k1 k2, if_neg z1]⟩ ?_))))
      rw [rsE]
      unfold nwL
      rw [if_pos (sty.1 q)]
      have e1 := he.1
      have pos := q.1
      rw [mV 11 (by omega) (by omega)] at pos
      refine old_put ⟨by omega, by omega⟩ ?_ (fun k k1 k2 z z1 z2 => ?_) (fun k k0 k1 => ?_)
      · dsimp only [Vw]; rw [q2, if_pos rfl, mV 11 (by omega) (by omega)]
      · dsimp only [Vw]; rw [q3 k k1 k2, if_pos ⟨z1, z2⟩, mV k (by omega) (by omega)]
      · have b := ed_bd hW.1 he k0 k1
        omega
    · -- it is placed anew
      have e6 : mm 6 p = V 6 := mV 6 (by omega) (by omega)
      have e7 : mm 7 p = V 7 := mV 7 (by omega) (by omega)
      refine b17_51 (by omega) (fun _ => b17_67 (c_placeAnew (T := tkF V y.toNat) (P := V 3 0) (K := V 3 1) (H := V 3 2) (h := V 5 i) hi (by rw [e6]; exact hs.2.2.1) (fun j j0 j1 => ?_) (by rw [mV 3 (by omega) (by omega)]) (by rw [mV 3 (by omega) (by omega)]) (by rw [mV 3 (by omega) (by omega)]) (by rw [mV 5 (by omega) (by omega)]) w0 hs.2.1 h2.1 h2.2 w1 (by omega) h5 h6 (fun m4 q1 q2 => tail m4 q1 ?_))) (fun z => absurd rfl z)
      · rw [e6] at j1
        rw [e7]
        have := hs.2.2.2.2.2.1 j j0 j1
        omega
      · rw [rsE]
        unfold nwL
        rw [if_neg (fun z => q (sty.2 z))]
        rw [placeF_congr (V := V) (V' := Vw mm p) (mV 3 (by omega) (by omega)) (mV 5 (by omega) (by omega)) e6 e7] at q2
        exact q2.g.1
