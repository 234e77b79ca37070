-- the reference makes an edition
noncomputable def heldN (V : Nat → Int → Int) : Int := SmA (fun i => if (rsL V i).length = 0 then 1 else 0) V
/-- what the reference has made -/
def EdR (V : Nat → Int → Int) (f : Int → Int) : Prop := ∀ i, 0 ≤ i → i < V 3 3 → (V 8 i ≠ 0 → PutR f i (rsL V i) ∧ f (20 * i + 1) = mvB V i) ∧ (V 8 i = 0 → f (20 * i) = -9 ∧ f (20 * i + 1) = 0)
theorem PutR.congr {f f' : Int → Int} {i : Int} {L : List Pc} (h : PutR f i L) (hl : L.length ≤ 3) (h0 : f' (20 * i) = f (20 * i)) (hk : ∀ z, 20 * i + 2 ≤ z → z < 20 * i + 20 → f' z = f z) : PutR f' i L := by
  refine ⟨by rw [h0]; exact h.1, fun k x hx => ?_⟩
  have hl2 : k < L.length := (List.getElem?_eq_some_iff.1 hx).1
  have g := h.2 k x hx
  unfold PcR at g ⊢
  rw [hk _ (by omega) (by omega), hk _ (by omega) (by omega), hk _ (by omega) (by omega), hk _ (by omega) (by omega), hk _ (by omega) (by omega), hk _ (by omega) (by omega)]
  exact g
/-- before a turn of the reference's -/
def RI (V : Nat → Int → Int) (m : MI) (y : Int) (mm : MI) : Prop := (∀ k, k ≠ 31 → k ≠ 32 → mm k = m k) ∧ TR mm (tkF V y.toNat) ∧ (∀ i, 0 ≤ i → i < V 3 3 → V 8 i ≠ 0 → ahV V i < y → PutR (mm 32 0) i (rsL V i)) ∧ (∀ i, 0 ≤ i → i < V 3 3 → ¬ (V 8 i ≠ 0 ∧ ahV V i < y) → mm 32 0 (20 * i) = -9) ∧ ∀ i, 0 ≤ i → i < V 3 3 → mm 32 0 (20 * i + 1) = 0
theorem RI.next {V : Nat → Int → Int} {m mm m5 : MI} {t y i : Int} (hW : PWf V t) (y0 : 0 ≤ y) (h : RI V m y mm) (i0 : 0 ≤ i) (i1 : i < V 3 3) (i8 : V 8 i ≠ 0) (ia : ahV V i = y) (f5 : FrF mm m5 i) (p5 : PutR (m5 32 0) i (rsL V i)) (t5 : TR m5 (fun c l => tkF V y.toNat c l ∨ OnL (rsL V i) c l)) : RI V m (y + 1) m5 := by
  obtain ⟨h1, h2, h3, h4, h5⟩ := h
  have gl : ∀ j, 0 ≤ j → j < V 3 3 → (rsL V j).length ≤ 3 := fun j j0 j1 => (rs_gd hW ⟨j0, j1⟩).1
  refine ⟨fun k k1 k2 => by rw [f5.1 k k1 k2, h1 k k1 k2], fun c l c0 c1 l0 l1 => ?_, fun j j0 j1 j8 ja => ?_, fun j j0 j1 jn => ?_, fun j j0 j1 => ?_⟩
  · rw [t5 c l c0 c1 l0 l1, show (y + 1).toNat = y.toNat + 1 by omega, tkF_next i0 i1 i8 (by omega)]
  · by_cases q : j = i
    · rw [q]; exact p5
    · have ne : ahV V j ≠ y := fun z => q (ah_inj (rk := V 4) ⟨j0, j1⟩ ⟨i0, i1⟩ j8 i8 (z.trans ia.symm))
      exact (h3 j j0 j1 j8 (by omega)).congr (gl j j0 j1) (f5.2 _ (by omega) (by omega)) (fun z z1 z2 => f5.2 z (by omega) (by omega))
  · have q : j ≠ i := fun q => by subst q; exact jn ⟨i8, by omega⟩
    rw [f5.2 _ (by omega) (by omega)]
    exact h4 j j0 j1 (fun z => jn ⟨z.1, by omega⟩)
  · rw [f5.2 _ (by omega) (by omega)]
    exact h5 j j0 j1
theorem r_back {Γ : GG} {d : Nat} {m : MI} {n : ML} {post : PO} {i t : Int} {V : Nat → Int → Int} {T : Int → Int → Prop} {L : List Pc} (hW : HWf V t) (hi : 0 ≤ i ∧ i < 12) (h : PutR (m 32 0) i L) (hg : GdL V T L) (hT : TR m (fun c l => T c l ∨ OnL L c l)) (K : ∀ m', FrF m m' i → PutR (m' 32 0) i [] → TR m' T → post none m' n) : CM Γ (d + 2) 133 [vr 25 0, vi i] m n post := by
  have gl := hg.1
  have at_ : ∀ k, 0 ≤ k → k < (L.length : Int) → ∃ x, x ∈ L ∧ L[k.toNat]? = some x ∧ PcR (m 32 0) i k x := fun k k0 k1 => by
    have hl : k.toNat < L.length := by omega
    have ek : ((k.toNat : Nat) : Int) = k := by omega
    have g := h.2 k.toNat L[k.toNat] (List.getElem?_eq_getElem hl)
    rw [ek] at g
    exact ⟨L[k.toNat], List.getElem_mem hl, List.getElem?_eq_getElem hl, g⟩
  refine r_takesBack hi h.1 (by omega) (fun k k0 k1 => ?_) (fun m' a1 a2 a3 a4 a5 => K m' ⟨a1, fun z z1 _ => a3 z z1⟩ (PutR.nil a2) (fun c l c0 c1 l0 l1 => ?_))
  · obtain ⟨x, hx, _, g1, g2, g3, g4, g5, g6⟩ := at_ k k0 k1
    have b := gp_b hW (hg.2.1 x hx)
    have b1 := (hg.2.1 x hx).2.2.1.1
    unfold PcMb
    rw [g1, g2, g3, g4]
    omega
  · have tm := hT c l c0 c1 l0 l1
    have ip : (∃ k, 0 ≤ k ∧ k < (L.length : Int) ∧ InPc m i k (60 * c + l)) ↔ OnL L c l := by
      constructor
      · rintro ⟨k, k0, k1, q⟩
        obtain ⟨x, hx, _, g1, g2, g3, g4, g5, g6⟩ := at_ k k0 k1
        have b := gp_b hW (hg.2.1 x hx)
        unfold InPc at q
        rw [g1, g2, g3, g4] at q
        refine ⟨x, hx, ?_⟩
        unfold OnX
        omega
      · rintro ⟨x, hx, o1, o2, o3⟩
        obtain ⟨k, hk⟩ := List.mem_iff_getElem?.1 hx
        have hl : k < L.length := (List.getElem?_eq_some_iff.1 hk).1
        obtain ⟨g1, g2, g3, g4, g5, g6⟩ := h.2 k x hk
        have b := gp_b hW (hg.2.1 x hx)
        refine ⟨k, by omega, by omega, ?_⟩
        unfold InPc
        rw [g1, g2, g3, g4]
        omega
    by_cases q : OnL L c l
    · have z := a4 (60 * c + l) (ip.2 q)
      refine ⟨fun u => absurd z u, fun u => ?_⟩
      obtain ⟨x, hx, o1, o2, o3⟩ := q
      have g := (hg.2.1 x hx).2.2.1
      exact absurd u (by rw [o1]; exact g.2.2 l o2 o3)
    · have z := a5 (60 * c + l) (fun u => q (ip.1 u))
      have e : Tm m' c l ↔ Tm m c l := by
        show ¬ m' 31 0 (60 * c + l) = 0 ↔ ¬ m 31 0 (60 * c + l) = 0
        rw [z]
      rw [e, tm]
      exact ⟨fun u => u.elim id (fun v => absurd v q), Or.inl⟩
theorem rs_stay {V : Nat → Int → Int} {i y : Int} (ia : ahV V i = y) (h : StyS V (tkF V y.toNat) i) : rsL V i = oldL V i := by
  unfold rsL nwL
  rw [ia, if_pos h]
theorem rs_new {V : Nat → Int → Int} {i y : Int} (ia : ahV V i = y) (h : ¬ StyS V (tkF V y.toNat) i) : rsL V i = placeF V (tkF V y.toNat) i := by
  unfold rsL nwL
  rw [ia, if_neg h]
/-- the turn of a story -/
theorem r_turn {Γ : GG} {d : Nat} {m mm : MI} {n : ML} {post : PO} {t y i hd many : Int} {V : Nat → Int → Int} (hP : PRel V (m 26 0)) (hW : PWf V t) (ht : t ≤ 1000) (y0 : 0 ≤ y) (h : RI V m y mm) (i0 : 0 ≤ i) (i1 : i < V 3 3) (i8 : V 8 i ≠ 0) (ia : ahV V i = y)
    (K : ∀ m5, RI V m (y + 1) m5 → AM Γ (d + 5) 135 143 [some (vr 25 0), some (vi (hd + (if (rsL V i).length = 0 then 1 else 0))), some (vi many), some (vi y), some (vi i)] [] m5 n post) : AM Γ (d + 5) 135 105 [some (vr 25 0), some (vi hd), some (vi many), some (vi y), some (vi i)] [] mm n post := by
  have w := hW.1
  have w3 := w.2.2.2.1
  have he := hW.2.2 i i0 (by omega)
  have hi12 : 0 ≤ i ∧ i < 12 := ⟨i0, by omega⟩
  refine b135_105 (by omega) ?_
  generalize hm1 : up mm 32 0 (20 * i) 0 = m1
  have f1 : FrF mm m1 i := ⟨fun k k1 k2 => by rw [← hm1, up_k k2], fun z z1 _ => by rw [← hm1, up_rd, if_neg (fun u => z1 u.2.2)]⟩
  have z1 : m1 32 0 (20 * i) = 0 := by rw [← hm1, up_rd, if_pos ⟨rfl, rfl, rfl⟩]
  have t1 : TR m1 (tkF V y.toNat) := fun c l c0 c1 l0 l1 => by
    rw [← h.2.1 c l c0 c1 l0 l1]
    show ¬ m1 31 0 (60 * c + l) = 0 ↔ ¬ mm 31 0 (60 * c + l) = 0
    rw [← hm1, up_k (by omega)]
  have P1 : PRel V (m1 26 0) := by rw [f1.1 26 (by omega) (by omega), h.1 26 (by omega) (by omega)]; exact hP
  clear hm1
  refine r_stays (T := tkF V y.toNat) P1 hW ht ⟨i0, i1⟩ t1 z1 (fun st m2 f2 p2 t2 => ?_) (fun st => ?_)
  · have e := rs_stay ia st
    have ne : ¬ (rsL V i).length = 0 := by
      have q := oldL_len (V := V) (i := i) (by have := st.1; omega)
      have := st.1
      rw [e]
      omega
    have go := K m2 (h.next hW y0 i0 i1 i8 ia (f1.trans f2) (by rw [e]; exact p2) (by rw [e]; exact t2))
    rw [if_neg ne, Int.add_zero] at go
    exact b135_122 (by omega) (fun _ => go) (fun u => absurd u (by omega))
  · have e := rs_new ia st
    refine b135_122 (by omega) (fun u => absurd rfl u) (fun _ => b135_125 (r_places (T := tkF V y.toNat) P1 hW ⟨i0, i1⟩ z1 t1 (fun u m2 f2 p2 t2 => ?_) (fun u m2 L f2 p2 g2 t2 => ?_)))
    · have ne : ¬ (rsL V i).length = 0 := by
        rw [e]
        intro q
        exact u (List.eq_nil_of_length_eq_zero q)
      have go := K m2 (h.next hW y0 i0 i1 i8 ia (f1.trans f2) (by rw [e]; exact p2) (by rw [e]; exact t2))
      rw [if_neg ne, Int.add_zero] at go
      exact b135_131 (by omega) (fun _ => go) (fun v => absurd v (by omega))
    · have e0 : rsL V i = [] := by rw [e, u]
      refine b135_131 (by omega) (fun v => absurd rfl v) (fun _ => b135_134 (r_back w hi12 p2 g2 t2 (fun m3 f3 p3 t3 => b135_140 ?_)))
      have go := K m3 (h.next hW y0 i0 i1 i8 ia ((f1.trans f2).trans f3) (by rw [e0]; exact p3) (by rw [e0]; exact t3.nil))
      rw [if_pos (by rw [e0]; rfl)] at go
      exact go
set_option maxHeartbeats 4000000 in
theorem r_makes {Γ : GG} {d : Nat} {m : MI} {n : ML} {post : PO} {t : Int} {V : Nat → Int → Int} (hP : PRel V (m 26 0)) (hW : PWf V t) (ht : t ≤ 1000) (K : ∀ m', (∀ k, k ≠ 31 → k ≠ 32 → m' k = m k) → EdR V (m' 32 0) → TR m' (tkF V (alN (V 8) (V 3 3)).toNat) → post (some (vi (heldN V))) m' n) : CM Γ (d + 5) 135 [vr 25 0] m n post := by
  have w := hW.1
  have w3 := w.2.2.2.1
  have r3 := hP.1.2.2.2.1
  have ab := alN_bd (al := V 8) (c := V 3 3) w3.1
  have sA : ∀ j, 0 ≤ j → j < V 3 3 → m 26 0 (4 + 13 * j + 2) = V 8 j ∧ (V 8 j = 0 ∨ V 8 j = 1) := fun j j0 j1 => ⟨(hP.2 j j0 j1).1.2.2.1, (hW.2.1 j j0 j1).2.2.2.1⟩
  have gl : ∀ j, 0 ≤ j → j < V 3 3 → (rsL V j).length ≤ 3 := fun j j0 j1 => (rs_gd hW ⟨j0, j1⟩).1
  -- the last loop: moved
  have l4 : ∀ mm o4, (∀ k, k ≠ 31 → k ≠ 32 → mm k = m k) → TR mm (tkF V (alN (V 8) (V 3 3)).toNat) → (∀ i, 0 ≤ i → i < V 3 3 → (V 8 i ≠ 0 → PutR (mm 32 0) i (rsL V i)) ∧ (V 8 i = 0 → mm 32 0 (20 * i) = -9)) → AM Γ (d + 5) 135 155 [some (vr 25 0), some (vi (heldN V)), some (vi (alN (V 8) (V 3 3))), some (vi (alN (V 8) (V 3 3))), o4] [] mm n post := by
    intro mm o4 f0 t0 p0
    refine b135_155 ?_
    have key := up_ind (P := fun x => ∀ mm, (∀ k, k ≠ 31 → k ≠ 32 → mm k = m k) → TR mm (tkF V (alN (V 8) (V 3 3)).toNat) → (∀ i, 0 ≤ i → i < V 3 3 → (V 8 i ≠ 0 → PutR (mm 32 0) i (rsL V i)) ∧ (V 8 i = 0 → mm 32 0 (20 * i) = -9)) → (∀ i, 0 ≤ i → i < x → mm 32 0 (20 * i + 1) = if V 8 i = 0 then 0 else mvB V i) → AM Γ (d + 5) 135 157 [some (vr 25 0), some (vi (heldN V)), some (vi (alN (V 8) (V 3 3))), some (vi x), o4] [] mm n post) 0 (V 3 3) w3.1 ?_ ?_
    · exact key mm f0 t0 p0 (fun i i0 i1 => by omega)
    · intro mm f1 t1 p1 q1
      have e3 : mm 26 0 3 = V 3 3 := by rw [f1 26 (by omega) (by omega), r3]
      refine b135_157 (by omega) (by omega) (fun _ => b135_197 (K mm f1 (fun i i0 i1 => ⟨fun u => ⟨(p1 i i0 i1).1 u, ?_⟩, fun u => ⟨(p1 i i0 i1).2 u, ?_⟩⟩) t1)) (fun u => absurd u (by omega))
      · rw [q1 i i0 i1, if_neg u]
      · rw [q1 i i0 i1, if_pos u]
    · intro x x1 x2 ih mm f1 t1 p1 q1
      have e26 : mm 26 = m 26 := f1 26 (by omega) (by omega)
      have e3 : mm 26 0 3 = V 3 3 := by rw [e26, r3]
      have P1 : PRel V (mm 26 0) := by rw [e26]; exact hP
      -- behind the question
      have go : ∀ b, b = (if V 8 x = 0 then 0 else mvB V x) → AM Γ (d + 5) 135 190 [some (vr 25 0), some (vi (heldN V)), some (vi (alN (V 8) (V 3 3))), some (vi x), o4] [vi b, vi (20 * x + 1), vr 32 0] mm n post := by
        intro b hb
        have u32 : ∀ z, up mm 32 0 (20 * x + 1) b 32 0 z = if z = 20 * x + 1 then b else mm 32 0 z := fun z => by simp [up_rd]
        refine b135_190 (by omega) (ih _ (fun k k1 k2 => by rw [up_k k2, f1 k k1 k2]) (fun c l c0 c1 l0 l1 => ?_) (fun i i0 i1 => ⟨fun u => ?_, fun u => ?_⟩) (fun i i0 i1 => ?_))
        · rw [← t1 c l c0 c1 l0 l1]
          show ¬ up mm 32 0 (20 * x + 1) b 31 0 (60 * c + l) = 0 ↔ ¬ mm 31 0 (60 * c + l) = 0
          rw [up_k (by omega)]
        · exact ((p1 i i0 i1).1 u).congr (gl i i0 i1) (by rw [u32, if_neg (by omega)]) (fun z z1 z2 => by rw [u32, if_neg (by omega)])
        · rw [u32, if_neg (by omega)]
          exact (p1 i i0 i1).2 u
        · rw [u32]
          by_cases v : i = x
          · rw [if_pos (by omega), v, hb]
          · rw [if_neg (by omega)]
            exact q1 i i0 (by omega)
      have one : ∀ b, (b = 0 ∨ b = 1) → b = (if V 8 x = 0 then 0 else mvB V x) → AM Γ (d + 5) 135 182 [some (vr 25 0), some (vi (heldN V)), some (vi (alN (V 8) (V 3 3))), some (vi x), o4] [vi b, vi (20 * x + 1), vr 32 0] mm n post := by
        intro b hb01 hb
        refine b135_182 (by omega) (fun u => b135_189 (go 0 (by rw [← hb, u]))) (fun u => b135_185 (go 1 (by rw [← hb]; omega)))
      refine b135_157 (by omega) (by omega) (fun u => absurd (show x < mm 26 0 3 by omega) u) (fun _ => b135_167 ?_)
      by_cases a8 : V 8 x = 0
      · exact r_moves0 P1 hW ht ⟨x1, x2⟩ ((p1 x x1 x2).2 a8) (one 0 (Or.inl rfl) (by rw [if_pos a8]))
      · refine r_moves P1 hW ht ⟨x1, x2⟩ (rs_gd hW ⟨x1, x2⟩) ((p1 x x1 x2).1 a8) (fun q => one 1 (Or.inr rfl) ?_) (fun q => one 0 (Or.inl rfl) ?_)
        · rw [if_neg a8]; unfold mvB; rw [if_pos q]
        · rw [if_neg a8]; unfold mvB; rw [if_neg q]
  -- the turns
  have l3 : ∀ mm, RI V m 0 mm → AM Γ (d + 5) 135 56 [some (vr 25 0), some (vi 240), none, none, none] [] mm n post := by
    intro mm h0
    have e26 : mm 26 = m 26 := h0.1 26 (by omega) (by omega)
    refine b135_56 (r_alive (by rw [e26]; omega) (by rw [e26]; omega) ?_)
    have eal : Sm (fun j => mm 26 0 (4 + 13 * j + 2)) 0 (mm 26 0 3) = alN (V 8) (V 3 3) := by
      rw [e26, r3]
      exact alN_eq sA
    rw [eal]
    refine b135_62 ?_
    have key := up_ind (P := fun y => ∀ mm o4, RI V m y mm → AM Γ (d + 5) 135 65 [some (vr 25 0), some (vi (SmT (fun i => if (rsL V i).length = 0 then 1 else 0) V y)), some (vi (alN (V 8) (V 3 3))), some (vi y), o4] [] mm n post) 0 (alN (V 8) (V 3 3)) ab.1 ?_ ?_
    · have := key mm none h0
      rw [SmT_zero w3.1] at this
      exact this
    · intro mm o4 h
      rw [SmT_top]
      refine b135_65 (by omega) (by omega) (fun _ => l4 mm o4 h.1 h.2.1 (fun i i0 i1 => ⟨fun u => ?_, fun u => ?_⟩)) (fun u => absurd u (by omega))
      · exact h.2.2.1 i i0 i1 u (ah_top ⟨i0, i1⟩ u)
      · exact h.2.2.2.1 i i0 i1 (fun v => v.1 u)
    · intro y y1 y2 ih mm o4 h
      obtain ⟨i, i0, i1, i8, ia⟩ := ah_sur (rk := V 4) (al := V 8) (c := V 3 3) w3.1 y1 y2
      have nxt := SmT_next (g := fun i => if (rsL V i).length = 0 then 1 else 0) i0 i1 i8 (t := y) ia
      refine b135_65 (by omega) (by omega) (fun u => absurd y2 u) (fun _ => b135_70 ?_)
      have inner := up_ind (P := fun x => ∀ mm y', ((x ≤ i → y' = y) ∧ (i < x → y' = y + 1)) → RI V m y' mm → AM Γ (d + 5) 135 73 [some (vr 25 0), some (vi (SmT (fun i => if (rsL V i).length = 0 then 1 else 0) V y')), some (vi (alN (V 8) (V 3 3))), some (vi y), some (vi x)] [] mm n post) 0 (V 3 3) w3.1 ?_ ?_
      · exact inner mm y ⟨fun _ => rfl, fun u => by omega⟩ h
      · intro mm y' hy hh
        have e3 : mm 26 0 3 = V 3 3 := by rw [hh.1 26 (by omega) (by omega), r3]
        have ey := hy.2 i1
        subst ey
        exact b135_73 (by omega) (by omega) (fun _ => b135_149 (ih mm _ hh)) (fun u => absurd u (by omega))
      · intro x x1 x2 ihx mm y' hy hh
        have e26 : mm 26 = m 26 := hh.1 26 (by omega) (by omega)
        have e3 : mm 26 0 3 = V 3 3 := by rw [e26, r3]
        obtain ⟨a1, a2⟩ := sA x x1 x2
        have sk : x ≠ i → AM Γ (d + 5) 135 143 [some (vr 25 0), some (vi (SmT (fun i => if (rsL V i).length = 0 then 1 else 0) V y')), some (vi (alN (V 8) (V 3 3))), some (vi y), some (vi x)] [] mm n post := fun q =>
          b135_143 (ihx mm y' ⟨fun u => hy.1 (by omega), fun u => hy.2 (by omega)⟩ hh)
        refine b135_73 (by omega) (by omega) (fun u => absurd (show x < mm 26 0 3 by omega) u) (fun _ => b135_84 (r_of ⟨x1, by omega⟩ (by omega) ?_))
        rw [e26, a1]
        refine b135_91 (by omega) (fun u => sk (fun q => by rw [q] at u a2; omega)) (fun u => b135_95 (r_ahead ⟨x1, by omega⟩ (by omega) (by omega) (fun j j0 j1 => ?_) ?_ (fun j j0 j1 => ?_) ?_))
        · rw [e26, (hP.2 j j0 (by omega)).1.1]
          have := (hW.2.1 j j0 (by omega)).1
          exact ir (by omega) (by omega)
        · rw [e26, (hP.2 x x1 x2).1.1]
          have := (hW.2.1 x x1 x2).1
          exact ir (by omega) (by omega)
        · rw [e26, (sA j j0 (by omega)).1]
          exact (sA j j0 (by omega)).2
        · have ea : ahN (fun j => mm 26 0 (4 + 13 * j)) (fun j => mm 26 0 (4 + 13 * j + 2)) (mm 26 0 3) x = ahV V x := by
            rw [e26, r3]
            exact ahN_congr ⟨x1, x2⟩ (fun j j0 j1 => ⟨(hP.2 j j0 j1).1.1, (sA j j0 j1).1⟩)
          rw [ea]
          have abd := ahN_bd (rk := V 4) (al := V 8) (i := x) w3.1
          have abd2 : 0 ≤ ahV V x ∧ ahV V x ≤ V 3 3 := abd
          refine b135_101 (by omega) (by omega) (fun v => sk (fun q => v (by rw [q]; exact ia))) (fun v => ?_)
          have xi : x = i := ah_inj (rk := V 4) ⟨x1, x2⟩ ⟨i0, i1⟩ (by omega) i8 (v.trans ia.symm)
          subst xi
          have ey := hy.1 (Int.le_refl _)
          subst ey
          refine r_turn hP hW ht y1 hh i0 i1 i8 ia (fun m5 h5 => b135_143 ?_)
          rw [← nxt]
          exact ihx m5 _ ⟨fun u => by omega, fun _ => rfl⟩ h5
  -- the row of pieces is emptied
  have l2 : ∀ mm, (∀ k, k ≠ 31 → mm k = m k) → (∀ z, 0 ≤ z → z < 1200 → mm 31 0 z = 0) → AM Γ (d + 5) 135 22 [some (vr 25 0), some (vi 1200), none, none, none] [] mm n post := by
    intro mm f0 z0
    refine b135_22 ?_
    have key := up_ind (P := fun y => ∀ mm, (∀ k, k ≠ 31 → k ≠ 32 → mm k = m k) → (∀ z, 0 ≤ z → z < 1200 → mm 31 0 z = 0) → (∀ z, 0 ≤ z → z < y → mm 32 0 z = if z % 20 = 0 then -9 else 0) → AM Γ (d + 5) 135 24 [some (vr 25 0), some (vi y), none, none, none] [] mm n post) 0 240 (by omega) ?_ ?_
    · exact key mm (fun k k1 _ => f0 k k1) z0 (fun z z1 z2 => by omega)
    · intro mm f1 z1 g1
      refine b135_24 (by omega) (fun _ => l3 mm ⟨f1, fun c l c0 c1 l0 l1 => ?_, fun i i0 i1 i8 ia => ?_, fun i i0 i1 _ => ?_, fun i i0 i1 => ?_⟩) (fun u => absurd u (by omega))
      · have := z1 (60 * c + l) (by omega) (by omega)
        exact ⟨fun u => absurd this u, fun u => u.elim⟩
      · have := (ahN_bd (rk := V 4) (al := V 8) (i := i) w3.1).1
        exact absurd (show ahN (V 4) (V 8) (V 3 3) i < 0 from ia) (by omega)
      · rw [g1 _ (by omega) (by omega), if_pos (by omega)]
      · rw [g1 _ (by omega) (by omega), if_neg (by omega)]
    · intro y y1 y2 ih mm f1 z1 g1
      have go : ∀ b, b = (if y % 20 = 0 then -9 else 0) → AM Γ (d + 5) 135 49 [some (vr 25 0), some (vi y), none, none, none] [vi b, vi y, vr 32 0] mm n post := by
        intro b hb
        refine b135_49 (by omega) (ih _ (fun k k1 k2 => by rw [up_k k2, f1 k k1 k2]) (fun z z2 z3 => by rw [up_k (by omega), z1 z z2 z3]) (fun z z2 z3 => ?_))
        rw [up_rd]
        by_cases q : z = y
        · rw [if_pos ⟨rfl, rfl, q⟩, q, hb]
        · rw [if_neg (fun u => q u.2.2), g1 z z2 (by omega)]
      refine b135_24 (by omega) (fun u => absurd y2 u) (fun _ => b135_31 (by omega) (by omega) (fun u => b135_48 (go 0 (by rw [if_neg u]))) (fun u => b135_43 (go (-9) (by rw [if_pos u]))))
  refine e135 (b135_0 ?_)
  have key := up_ind (P := fun y => ∀ mm, (∀ k, k ≠ 31 → mm k = m k) → (∀ z, 0 ≤ z → z < y → mm 31 0 z = 0) → AM Γ (d + 5) 135 2 [some (vr 25 0), some (vi y), none, none, none] [] mm n post) 0 1200 (by omega) ?_ ?_
  · exact key m (fun _ _ => rfl) (fun z z1 z2 => by omega)
  · intro mm f1 z1
    exact b135_2 (by omega) (fun _ => l2 mm f1 z1) (fun u => absurd u (by omega))
  · intro y y1 y2 ih mm f1 z1
    refine b135_2 (by omega) (fun u => absurd y2 u) (fun _ => b135_9 (by omega) (ih _ (fun k k1 => by rw [up_k k1, f1 k k1]) (fun z z2 z3 => ?_)))
    rw [up_rd]
    by_cases q : z = y
    · rw [if_pos ⟨rfl, rfl, q⟩]
    · rw [if_neg (fun u => q u.2.2), z1 z z2 (by omega)]
