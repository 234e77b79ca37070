-- THE LAW: its turns
theorem cmp_same (x : Int64) : (lg_cmp x x).toInt = 0 := by
  unfold lg_cmp
  simp
theorem own_at {m : MI} {t i k l r : Int} (hW : PWf (Vw m 0) t) (hX : XWf (Vw m 0)) (hi : 0 ≤ i ∧ i < 12) (hk : 0 ≤ k ∧ k < m 11 0 i) (hl : m 15 0 (i * 3 + k) ≤ l ∧ l < m 15 0 (i * 3 + k) + m 16 0 (i * 3 + k)) (h : OwnR (Vw m 0) (m 13 0 (i * 3 + k)) (m 14 0 (i * 3 + k)) l r) : r = i := by
  have hh : HasOn (Vw m 0) (m 13 0 (i * 3 + k)) (m 14 0 (i * 3 + k)) l i := ⟨k, hk.1, hk.2, rfl, rfl, hl.1, hl.2⟩
  have b := ed_bd hW.1 (hW.2.2 i hi.1 hi.2) hk.1 hk.2
  dsimp only [Vw] at b
  have pb : ∀ j, 0 ≤ j → j < 12 → PcB1 m 0 j := fun j j0 j1 => old_b1 (V := Vw m 0) (fun _ _ _ => rfl) hW.1 (hW.2.2 j j0 j1)
  rcases h with ⟨r0, r1, r2, r3⟩ | ⟨_, r3⟩
  · by_cases q : r = i
    · exact q
    · exact absurd (hX.2 r i (m 13 0 (i * 3 + k) * 4 + m 14 0 (i * 3 + k)) l r0 r1 hi.1 hi.2 q ((onP_has (pb r r0 r1) (by omega)).2 r2) ((onP_has (pb i hi.1 hi.2) (by omega)).2 hh)) id
  · exact absurd hh (r3 i hi.1 hi.2)
theorem pcs_bd {V : Nat → Int → Int} {t i : Int} (hW : PWf V t) (hi : 0 ≤ i ∧ i < 12) : -9 ≤ pcsF V i ∧ pcsF V i ≤ 3 := by
  have e := (hW.2.2 i hi.1 hi.2).1
  unfold pcsF
  (repeat' split) <;> omega
theorem pcs_pos {V : Nat → Int → Int} {i : Int} (h : 0 < pcsF V i) : 0 < V 10 0 ∧ V 11 i = pcsF V i := by
  unfold pcsF at h ⊢
  by_cases g : 0 < V 10 0
  · rw [if_pos g] at h ⊢
    by_cases q : V 11 i = -1
    · rw [if_pos q] at h
      omega
    · rw [if_neg q]
      exact ⟨g, rfl⟩
  · rw [if_neg g] at h
    omega
def s8 (V : Nat → Int → Int) (y : Int) : Int := Sm (fun i => if 0 < pcsF V i then 1 else 0) 0 y
def s9 (V : Nat → Int → Int) (y : Int) : Int := Sm (fun i => if pcsF V i = 0 then 1 else 0) 0 y
def s10 (V : Nat → Int → Int) (y : Int) : Int := Sm (fun i => if 0 < pcsF V i then pcsF V i else 0) 0 y
theorem s_bd {V : Nat → Int → Int} {t y : Int} (hW : PWf V t) (hy : 0 ≤ y ∧ y ≤ 12) : (0 ≤ s8 V y ∧ s8 V y ≤ 12) ∧ (0 ≤ s9 V y ∧ s9 V y ≤ 12) ∧ (0 ≤ s10 V y ∧ s10 V y ≤ 36) := by
  have a := Sm_bd (f := fun i => if 0 < pcsF V i then 1 else 0) (a := 0) (b := y) (c := 1) hy.1 (fun j _ _ => by split <;> omega)
  have b := Sm_bd (f := fun i => if pcsF V i = 0 then 1 else 0) (a := 0) (b := y) (c := 1) hy.1 (fun j _ _ => by split <;> omega)
  have c := Sm_bd (f := fun i => if 0 < pcsF V i then pcsF V i else 0) (a := 0) (b := y) (c := 3) hy.1 (fun j j0 j1 => by have := pcs_bd hW (i := j) ⟨j0, by omega⟩; split <;> omega)
  unfold s8 s9 s10
  omega
/-- what the edition counts is what the stories tell -/
theorem s_ed {V : Nat → Int → Int} {t : Int} (hW : PWf V t) (g : 0 < V 10 0) : ediF V 0 = s8 V (V 3 3) ∧ ediF V 1 = s9 V (V 3 3) ∧ ediF V 3 = s10 V (V 3 3) := by
  have c := ask_cnt hW
  have tl : ∀ j, V 3 3 ≤ j → j < 12 → V 11 j = -1 := fun j j0 j1 => ((hW.2.2 j (by omega) j1).2.2.2.1 j0).1
  have pe : ∀ j, pcsF V j = if V 11 j = -1 then -9 else V 11 j := fun j => by
    unfold pcsF
    rw [if_pos g]
  refine ⟨?_, ?_, ?_⟩
  · show (if 0 < V 10 0 then prN (V 11) 12 else -2) = _
    rw [if_pos g]
    unfold prN s8
    rw [Sm_tail (b := V 3 3) c.1 c.2.1 (fun j j0 j1 => by rw [tl j j0 j1]; rfl)]
    refine Sm_congr (fun j j0 j1 => ?_)
    rw [pe]
    (repeat' split) <;> omega
  · show (if 0 < V 10 0 then hoN (V 11) 12 else -2) = _
    rw [if_pos g]
    unfold hoN s9
    rw [Sm_tail (b := V 3 3) c.1 c.2.1 (fun j j0 j1 => by rw [tl j j0 j1]; rfl)]
    refine Sm_congr (fun j j0 j1 => ?_)
    rw [pe]
    (repeat' split) <;> omega
  · show (if 0 < V 10 0 then pcN (V 11) 12 else -2) = _
    rw [if_pos g]
    unfold pcN s10
    rw [Sm_tail (b := V 3 3) c.1 c.2.1 (fun j j0 j1 => by rw [tl j j0 j1]; rfl)]
    refine Sm_congr (fun j j0 j1 => ?_)
    rw [pe]
    (repeat' split) <;> omega
theorem l_pieces {Γ : GG} {m : MI} {n : ML} {post : PO} {t : Int} {x2 x3 x4 x7 : Int} {x5 : Int64} {a8 a9 a10 i : Int} (hI : Inv t m) (ht : t ≤ 1000) (hi : 0 ≤ i ∧ i < m 3 0 3) (K : ∀ y z, AM Γ 10 0 341 [some (vr 0 0), some (vr 1 0), some (vi (x2)), some (vi (x3)), some (vi (x4)), some (vl x5), none, some (vi (x7)), some (vi (a8)), some (vi (a9)), some (vi (a10)), some (vi (i)), some (vi (pcsF (Vw m 0) i)), some (vi (y)), some (vi (z))] [] m n post) : AM Γ 10 0 214 [some (vr 0 0), some (vr 1 0), some (vi (x2)), some (vi (x3)), some (vi (x4)), some (vl x5), none, some (vi (x7)), some (vi (a8)), some (vi (a9)), some (vi (a10)), some (vi (i)), some (vi (pcsF (Vw m 0) i)), some (vi (0)), some (vi (0))] [] m n post := by
  have hW := hI.1.1
  have c := ask_cnt hW
  dsimp only [Vw] at c
  have i12 : 0 ≤ i ∧ i < 12 := ⟨hi.1, by omega⟩
  have pb := pcs_bd hW i12
  by_cases hp : 0 < pcsF (Vw m 0) i
  · obtain ⟨g, e11⟩ := pcs_pos hp
    have e11' : m 11 0 i = pcsF (Vw m 0) i := e11
    have g' : 0 < m 10 0 0 := g
    generalize pcsF (Vw m 0) i = P at *
    have key := up_ind (P := fun y => AM Γ 10 0 214 [some (vr 0 0), some (vr 1 0), some (vi (x2)), some (vi (x3)), some (vi (x4)), some (vl x5), none, some (vi (x7)), some (vi (a8)), some (vi (a9)), some (vi (a10)), some (vi (i)), some (vi (P)), some (vi (Sm (fun j => m 18 0 (i * 3 + j)) 0 y)), some (vi (y))] [] m n post) 0 P (by omega) ?_ (fun y y0 y1 ih => ?_)
    · rw [Sm_nil (Int.le_refl 0)] at key
      exact key
    · exact b0_214 (ir (by omega) (by omega)) (ir (by omega) (by omega)) (fun _ => K _ _) (fun z => absurd z (by omega))
    · rw [Sm_succ y0] at ih
      have b := ed_bd hW.1 (hW.2.2 i i12.1 i12.2) y0 (by show y < m 11 0 i; omega)
      have s0 := hI.1.2.1 i i12.1 i12.2 y y0 (by show y < m 11 0 i; omega)
      dsimp only [Vw] at b s0
      have bd := (hW.2.2 i i12.1 i12.2).2.2.2.2 y y0 (by show y < m 11 0 i; omega)
      dsimp only [Vw] at bd
      have val : ∀ w, pieF (Vw m 0) i y w = prpV (Vw m 0) i y w := fun w => by
        unfold pieF
        rw [if_pos g, if_pos (by show y < m 11 0 i; omega)]
      have v0 : pieF (Vw m 0) i y 0 = m 13 0 (i * 3 + y) := val 0
      have v1 : pieF (Vw m 0) i y 1 = m 14 0 (i * 3 + y) := val 1
      have v2 : pieF (Vw m 0) i y 2 = m 15 0 (i * 3 + y) := val 2
      have v3 : pieF (Vw m 0) i y 3 = m 16 0 (i * 3 + y) := val 3
      have v4 : pieF (Vw m 0) i y 4 = m 17 0 (i * 3 + y) := val 4
      have v5 : pieF (Vw m 0) i y 5 = m 18 0 (i * 3 + y) := val 5
      have yb : 0 ≤ y ∧ y ≤ 1000 := ⟨y0, by omega⟩
      refine b0_214 (ir (by omega) (by omega)) (ir (by omega) (by omega)) (fun z => absurd y1 z) (fun _ => b0_221 (a_piece (d := 4) hW ht hi yb ⟨by omega, by omega⟩ ?_))
      rw [v4]
      refine b0_230 (ir (by omega) (by omega)) (by rw [← s0]; exact ir (by omega) (by omega)) (fun z => absurd s0 z) (fun _ => b0_235 (a_piece (d := 4) hW ht hi yb ⟨by omega, by omega⟩ (b0_245 (a_piece (d := 4) hW ht hi yb ⟨by omega, by omega⟩ (b0_254 (a_piece (d := 4) hW ht hi yb ⟨by omega, by omega⟩ (b0_263 ?_)))))))
      rw [v0, v1, v2]
      refine a_at (d := 4) hW ht g' bd.1 bd.2.1 ⟨bd.2.2.1.1, by omega⟩ (fun r hr => ?_)
      have er := own_at hW hI.1.2 i12 ⟨y0, by omega⟩ ⟨by omega, by omega⟩ hr
      subst er
      refine b0_266 (ir (by omega) (by omega)) (ir (by omega) (by omega)) (fun z => absurd rfl z) (fun _ => b0_271 (a_piece (d := 4) hW ht hi yb ⟨by omega, by omega⟩ (b0_281 (a_piece (d := 4) hW ht hi yb ⟨by omega, by omega⟩ (b0_290 (a_piece (d := 4) hW ht hi yb ⟨by omega, by omega⟩ (b0_299 (a_piece (d := 4) hW ht hi yb ⟨by omega, by omega⟩ (b0_308 ?_)))))))))
      rw [v0, v1, v2, v3]
      refine a_at (d := 4) hW ht g' bd.1 bd.2.1 ⟨by omega, by omega⟩ (fun r2 hr2 => ?_)
      have er2 := own_at hW hI.1.2 i12 ⟨y0, by omega⟩ ⟨by omega, by omega⟩ hr2
      subst er2
      refine b0_314 (ir (by omega) (by omega)) (ir (by omega) (by omega)) (fun _ => b0_321 (a_piece (d := 4) hW ht hi yb ⟨by omega, by omega⟩ (b0_332 ?_))) (fun z => absurd rfl z)
      rw [v5]
      exact ih
  · exact b0_214 (ir (by omega) (by omega)) (ir (by omega) (by omega)) (fun _ => K _ _) (fun z => absurd z hp)
theorem l_stories {Γ : GG} {m : MI} {n : ML} {post : PO} {t : Int} {x2 x3 x4 x7 : Int} {x5 : Int64} {o12 o13 o14 : Option AV} (hI : Inv t m) (ht : t ≤ 1000) (K : ∀ o12 o13 o14, AM Γ 10 0 347 [some (vr 0 0), some (vr 1 0), some (vi (x2)), some (vi (x3)), some (vi (x4)), some (vl x5), none, some (vi (x7)), some (vi (s8 (Vw m 0) (m 3 0 3))), some (vi (s9 (Vw m 0) (m 3 0 3))), some (vi (s10 (Vw m 0) (m 3 0 3))), some (vi (m 3 0 3)), o12, o13, o14] [] m n post) : AM Γ 10 0 144 [some (vr 0 0), some (vr 1 0), some (vi (x2)), some (vi (x3)), some (vi (x4)), some (vl x5), none, some (vi (x7)), some (vi (0)), some (vi (0)), some (vi (0)), some (vi (0)), o12, o13, o14] [] m n post := by
  have hW := hI.1.1
  have c := ask_cnt hW
  dsimp only [Vw] at c
  have cnt3 : cntF (Vw m 0) (m 19 0 0) 3 = m 3 0 3 := rfl
  have key := up_ind (P := fun y => ∀ o12 o13 o14, AM Γ 10 0 144 [some (vr 0 0), some (vr 1 0), some (vi (x2)), some (vi (x3)), some (vi (x4)), some (vl x5), none, some (vi (x7)), some (vi (s8 (Vw m 0) (y))), some (vi (s9 (Vw m 0) (y))), some (vi (s10 (Vw m 0) (y))), some (vi (y)), o12, o13, o14] [] m n post) 0 (m 3 0 3) c.1 ?_ (fun y y0 y1 ih => ?_)
  · have k := key o12 o13 o14
    unfold s8 s9 s10 at k
    rw [Sm_nil (Int.le_refl 0), Sm_nil (Int.le_refl 0), Sm_nil (Int.le_refl 0)] at k
    exact k
  · intro o12 o13 o14
    refine b0_144 (a_count (d := 4) hW ⟨by omega, by omega⟩ ?_)
    rw [cnt3]
    exact b0_151 (ir (by omega) (by omega)) (ir (by omega) (by omega)) (fun _ => K o12 o13 o14) (fun z => absurd z (by omega))
  · intro o12 o13 o14
    have hi : 0 ≤ y ∧ y < m 3 0 3 := ⟨y0, y1⟩
    have pb := pcs_bd hW (i := y) ⟨y0, by omega⟩
    have e8 : s8 (Vw m 0) (y + 1) = s8 (Vw m 0) y + (if 0 < pcsF (Vw m 0) y then 1 else 0) := Sm_succ y0
    have e9 : s9 (Vw m 0) (y + 1) = s9 (Vw m 0) y + (if pcsF (Vw m 0) y = 0 then 1 else 0) := Sm_succ y0
    have e10 : s10 (Vw m 0) (y + 1) = s10 (Vw m 0) y + (if 0 < pcsF (Vw m 0) y then pcsF (Vw m 0) y else 0) := Sm_succ y0
    rw [e8, e9, e10] at ih
    have tail : AM Γ 10 0 214 [some (vr 0 0), some (vr 1 0), some (vi (x2)), some (vi (x3)), some (vi (x4)), some (vl x5), none, some (vi (x7)), some (vi (s8 (Vw m 0) y + (if 0 < pcsF (Vw m 0) y then 1 else 0))), some (vi (s9 (Vw m 0) y + (if pcsF (Vw m 0) y = 0 then 1 else 0))), some (vi (s10 (Vw m 0) y + (if 0 < pcsF (Vw m 0) y then pcsF (Vw m 0) y else 0))), some (vi (y)), some (vi (pcsF (Vw m 0) y)), some (vi (0)), some (vi (0))] [] m n post := l_pieces hI ht hi (fun u w => b0_341 (ih _ _ _))
    refine b0_144 (a_count (d := 4) hW ⟨by omega, by omega⟩ ?_)
    rw [cnt3]
    refine b0_151 (ir (by omega) (by omega)) (ir (by omega) (by omega)) (fun z => absurd y1 z) (fun _ => b0_154 (a_pieces (d := 4) hW ht hi ?_))
    generalize pcsF (Vw m 0) y = P at *
    rcases (show P < 0 ∨ P = 0 ∨ 0 < P by omega) with q | q | q
    · rw [if_neg (by omega), if_neg (by omega), if_neg (by omega)] at tail
      exact b0_160 (ir (by omega) (by omega)) (fun _ => b0_173 (b0_174 (ir (by omega) (by omega)) (fun _ => b0_188 (b0_189 (ir (by omega) (by omega)) (fun _ => b0_204 (b0_205 tail)) (fun z => absurd z (by omega)))) (fun z => absurd z (by omega)))) (fun z => absurd z (by omega))
    · rw [if_neg (by omega), if_pos q, if_neg (by omega)] at tail
      exact b0_160 (ir (by omega) (by omega)) (fun _ => b0_173 (b0_174 (ir (by omega) (by omega)) (fun z => absurd q z) (fun _ => b0_184 (b0_189 (ir (by omega) (by omega)) (fun _ => b0_204 (b0_205 tail)) (fun z => absurd z (by omega)))))) (fun z => absurd z (by omega))
    · rw [if_pos q, if_neg (by omega), if_pos q] at tail
      exact b0_160 (ir (by omega) (by omega)) (fun z => absurd q z) (fun _ => b0_169 (b0_174 (ir (by omega) (by omega)) (fun _ => b0_188 (b0_189 (ir (by omega) (by omega)) (fun z => absurd q z) (fun _ => b0_199 (b0_205 tail)))) (fun z => absurd z (by omega))))
/-- behind a turn's change: all that is told adds up -/
theorem l_told {Γ : GG} {m : MI} {n : ML} {post : PO} {t : Int} {x3 x4 x7 : Int} {x5 : Int64} {o8 o9 o10 o11 o12 o13 o14 : Option AV} (hI : Inv t m) (ht : t ≤ 1000) (K : ∀ o4 o5 o6 o7 o8 o9 o10 o11 o12 o13 o14, AM Γ 10 0 12 [some (vr 0 0), some (vr 1 0), some (vi (m 1 0 3)), some (vi (x3 + 1)), o4, o5, o6, o7, o8, o9, o10, o11, o12, o13, o14] [] m n post) : AM Γ 10 0 120 [some (vr 0 0), some (vr 1 0), some (vi (m 1 0 3)), some (vi (x3)), some (vi (x4)), some (vl x5), none, some (vi (x7)), o8, o9, o10, o11, o12, o13, o14] [] m n post := by
  have hW := hI.1.1
  have c := ask_cnt hW
  dsimp only [Vw] at c
  have h6 := hI.2.1
  have cnt5 : cntF (Vw m 0) (m 19 0 0) 5 = m 10 0 0 := rfl
  refine b0_120 (a_saved (d := 4) (b0_126 (ir (by omega) (by omega)) (ir (by omega) (by omega)) (fun _ => b0_132 (l_stories hI ht (fun o12 o13 o14 => b0_347 (a_count (d := 4) hW ⟨by omega, by omega⟩ ?_)))) (fun z => absurd rfl z)))
  rw [cnt5]
  refine b0_352 (ir (by omega) (by omega)) (fun _ => b0_387 (K _ _ _ _ _ _ _ _ _ _ _)) (fun g => ?_)
  have se := s_ed (V := Vw m 0) hW g
  have sb := s_bd (V := Vw m 0) (y := m 3 0 3) hW ⟨by omega, by omega⟩
  have se3 : Vw m 0 3 3 = m 3 0 3 := rfl
  rw [se3] at se
  refine b0_355 (a_edition (d := 4) hW ht ⟨by omega, by omega⟩ ?_)
  rw [se.1]
  refine b0_360 (ir (by omega) (by omega)) (ir (by omega) (by omega)) (fun z => absurd rfl z) (fun _ => b0_365 (a_edition (d := 4) hW ht ⟨by omega, by omega⟩ ?_))
  rw [se.2.1]
  refine b0_370 (ir (by omega) (by omega)) (ir (by omega) (by omega)) (fun z => absurd rfl z) (fun _ => b0_375 (a_edition (d := 4) hW ht ⟨by omega, by omega⟩ ?_))
  rw [se.2.2]
  exact b0_380 (ir (by omega) (by omega)) (ir (by omega) (by omega)) (fun _ => b0_387 (K _ _ _ _ _ _ _ _ _ _ _)) (fun z => absurd rfl z)
theorem FrT.s {m m' : MI} (f : FrT m m') : m' 1 0 3 = m 1 0 3 ∧ taleM m' = taleM m := ⟨by rw [f.1 1 (by omega)], taleM_eq (f.2 0 (by omega)) (by rw [f.1 19 (by omega)])⟩
set_option maxHeartbeats 4000000 in
theorem l_turn {Γ : GG} {m : MI} {n : ML} {post : PO} {t : Int} {x3 : Int} {o4 o5 o6 o7 o8 o9 o10 o11 o12 o13 o14 : Option AV} (hI : Inv t m) (ht : t ≤ 999) (hx : 0 ≤ x3 ∧ x3 ≤ 1000) (K : ∀ m' n' o4 o5 o6 o7 o8 o9 o10 o11 o12 o13 o14, Inv (t + 1) m' → AM Γ 10 0 12 [some (vr 0 0), some (vr 1 0), some (vi (m' 1 0 3)), some (vi (x3 + 1)), o4, o5, o6, o7, o8, o9, o10, o11, o12, o13, o14] [] m' n' post) : AM Γ 10 0 18 [some (vr 0 0), some (vr 1 0), some (vi (m 1 0 3)), some (vi (x3)), o4, o5, o6, o7, o8, o9, o10, o11, o12, o13, o14] [] m n post := by
  refine b0_18 (d := 9) hx (a_tale (d := 1) hI (by omega) (fun m1 n1 f1 => b0_29 (CM.mono (op_does (d := 1) (hI.fr f1)) (fun r m2 n2 h => ?_))))
  have hI1 := hI.fr f1
  have g1 := f1.s
  have h6 := hI.2.1
  obtain ⟨x, hx7, rfl, ⟨xn, rfl⟩ | ⟨xp, hs⟩⟩ := h
  · refine b0_37 hx7 (fun z => absurd xn z) (fun _ => b0_44 (a_tale (d := 1) hI1 (by omega) (fun m3 n3 f3 => b0_48 (i32_bd _) (fun _ => ?_) (fun z => absurd (by rw [g1.2]; exact cmp_same _) z))))
    refine b0_56 hx7 (fun z => absurd xn z) (fun _ => b0_61 (b0_79 hx7 (fun _ => ?_) (fun z => absurd xn z)))
    have g3 := f3.s
    rw [← g1.1, ← g3.1]
    exact l_told ((hI1.fr f3).mono (by omega)) (by omega) (fun o4 o5 o6 o7 o8 o9 o10 o11 o12 o13 o14 => K m3 n3 o4 o5 o6 o7 o8 o9 o10 o11 o12 o13 o14 ((hI1.fr f3).mono (by omega)))
  · obtain ⟨hI2, e2, hb⟩ := hs.inv hI1
    have h62 := hI2.2.1
    refine b0_37 hx7 (fun _ => b0_56 hx7 (fun _ => ?_) (fun z => absurd z (by omega))) (fun z => absurd z (by omega))
    have t79 : AM Γ 10 0 79 [some (vr 0 0), some (vr 1 0), some (vi (m 1 0 3)), some (vi (x3)), some (vi (cellV m x3)), some (vl (taleM m)), none, some (vi (x)), o8, o9, o10, o11, o12, o13, o14] [vi (m2 1 0 3)] m2 n2 post := by
      refine b0_79 hx7 (fun z => absurd z (by omega)) (fun _ => b0_85 (iop_bd _ _ _) (fun _ => ?_) (fun _ => ?_))
      · exact l_told hI2 (by omega) (fun o4 o5 o6 o7 o8 o9 o10 o11 o12 o13 o14 => K m2 n2 o4 o5 o6 o7 o8 o9 o10 o11 o12 o13 o14 hI2)
      · refine b0_95 (op_undo (d := 5) hI2 hb (fun m3 n3 hI3 e3 hV h19 => b0_99 (ir (by omega) (by omega)) (ir (by omega) (by omega)) (fun z => absurd rfl z) (fun _ => b0_105 (a_tale (d := 1) hI3 (by omega) (fun m4 n4 f4 => b0_109 (i32_bd _) (fun _ => b0_117 ?_) (fun z => absurd (by rw [taleM_eq hV h19, g1.2]; exact cmp_same _) z))))))
        have g4 := f4.s
        rw [show m2 1 0 3 + -1 = m4 1 0 3 by omega]
        exact l_told (hI3.fr f4) (by omega) (fun o4 o5 o6 o7 o8 o9 o10 o11 o12 o13 o14 => K m4 n4 o4 o5 o6 o7 o8 o9 o10 o11 o12 o13 o14 (hI3.fr f4))
    rw [e2, g1.1] at t79
    by_cases q : m 1 0 3 < 6
    · rw [if_pos q] at t79
      exact b0_65 (ir (by omega) (by omega)) (fun z => absurd q z) (fun _ => b0_71 t79)
    · rw [if_neg q] at t79
      exact b0_65 (ir (by omega) (by omega)) (fun _ => b0_77 t79) (fun z => absurd z q)
set_option maxHeartbeats 4000000 in
theorem l_end {Γ : GG} {m : MI} {n : ML} {post : PO} {t : Int} {x3 : Int} {o4 o5 o6 o7 o8 o9 o10 o11 o12 o13 o14 : Option AV} (hI : Inv t m) (ht : t ≤ 999) (K : ∀ m' n', post (some (vi 1)) m' n') : AM Γ 10 0 393 [some (vr 0 0), some (vr 1 0), some (vi (m 1 0 3)), some (vi (x3)), o4, o5, o6, o7, o8, o9, o10, o11, o12, o13, o14] [] m n post := by
  have hh := heldN_bd (V := Vw m 0) hI.1.1.1.2.2.2.1
  refine b0_393 (d := 9) (c_make (d := 2) hI (fun m1 n1 E hs mk => b0_397 (ir (by omega) (by omega)) (fun _ => ?_) (fun z => absurd z (by omega))))
  obtain ⟨hI1, e1, hb⟩ := hs.inv hI
  have hW1 := hI1.1.1
  have c1 := ask_cnt hW1
  dsimp only [Vw] at c1
  have hW := hI.1.1
  have c0 := ask_cnt hW
  have g1 : 0 < m1 10 0 0 := by
    have a := mk.2.2.2 10 (by omega) (by omega) 0 (by omega) (by decide)
    have b := mk.1.1.1
    show 0 < Vw m1 0 10 0
    rw [a, b]
    omega
  have eh := again_held hW mk
  have e11 : ediF (Vw m1 0) 1 = heldN (Vw m 0) := by
    show (if 0 < Vw m1 0 10 0 then hoN (Vw m1 0 11) 12 else -2) = _
    rw [if_pos g1, ← ed_held hW mk.1]
    unfold hoN
    refine Sm_congr (fun j j0 j1 => ?_)
    have a := mk.2.2.2 11 (by omega) (by omega) j j0 j1
    rw [a]
  refine b0_402 (a_edition (d := 4) hW1 (by omega) ⟨by omega, by omega⟩ ?_)
  rw [e11]
  refine b0_407 (a_next (d := 2) (V := Vw m1 0) (fun _ _ _ => rfl) hW1 ⟨by omega, by omega⟩ (fun m2 n2 f2 => ?_))
  have n0 : nxtF (Vw m1 0) 0 = heldN (Vw m 0) := eh
  rw [n0]
  refine b0_413 (ir (by omega) (by omega)) (ir (by omega) (by omega)) (fun z => absurd rfl z) (fun _ => b0_417 (a_next (d := 2) (V := Vw m1 0) (fun k k1 k2 => f2 k 0 (by omega) (by omega)) hW1 ⟨by omega, by omega⟩ (fun m3 n3 f3 => ?_)))
  have n1 : nxtF (Vw m1 0) 1 = 0 := by
    show alN (mvF (Vw m1 0) (mvB (Vw m1 0))) 12 = 0
    have z : ∀ j, mvF (Vw m1 0) (mvB (Vw m1 0)) j = 0 ∨ j < 0 := fun j => by
      by_cases q : j < 0
      · exact Or.inr q
      · refine Or.inl ?_
        unfold mvF
        split
        · rename_i w
          rw [mk.2.1 3 (by omega) (by omega), mk.2.1 8 (by omega) (by omega)] at w
          exact again_mv hW mk (by omega) w.1 w.2
        · rfl
    unfold alN
    have := Sm_bd (f := fun j => if mvF (Vw m1 0) (mvB (Vw m1 0)) j = 0 then 0 else 1) (a := 0) (b := 12) (c := 0) (by omega) (fun j j0 _ => by
      rcases z j with w | w
      · rw [if_pos w]; omega
      · omega)
    omega
  rw [n1]
  have f13 := (f2.trans f3).t
  have hI3 := hI1.fr f13
  have hb3 := hb.fr hI1 f13
  have b6 := hI3.2.1
  refine b0_422 (ir (by omega) (by omega)) (fun z => absurd rfl z) (fun _ => b0_425 (op_undo (d := 5) hI3 hb3 (fun m4 n4 _ _ _ _ => b0_429 (ir (by omega) (by omega)) (fun z => absurd z (by have := hb3.1; omega)) (fun _ => b0_432 (b0_437 (Or.inr rfl) (K m4 n4))))))
theorem law_loop {Γ : GG} {post : PO} (K : ∀ m' n', post (some (vi 1)) m' n') : ∀ (f : Nat) (e : Int) (m : MI) (n : ML) (o4 o5 o6 o7 o8 o9 o10 o11 o12 o13 o14 : Option AV), Inv e m → 0 ≤ e → e + f = 30 → AM Γ 10 0 12 [some (vr 0 0), some (vr 1 0), some (vi (m 1 0 3)), some (vi (e)), o4, o5, o6, o7, o8, o9, o10, o11, o12, o13, o14] [] m n post
  | 0, e, m, n, o4, o5, o6, o7, o8, o9, o10, o11, o12, o13, o14, hI, h0, hf => b0_12 (ir (by omega) (by omega)) (fun _ => l_end hI (by omega) K) (fun z => absurd z (by omega))
  | f + 1, e, m, n, o4, o5, o6, o7, o8, o9, o10, o11, o12, o13, o14, hI, h0, hf => b0_12 (ir (by omega) (by omega)) (fun z => absurd (show e < 30 by omega) z) (fun _ => l_turn hI (by omega) ⟨h0, by omega⟩ (fun m' n' o4 o5 o6 o7 o8 o9 o10 o11 o12 o13 o14 hI' => law_loop K f (e + 1) m' n' o4 o5 o6 o7 o8 o9 o10 o11 o12 o13 o14 hI' (by omega) (by omega)))
