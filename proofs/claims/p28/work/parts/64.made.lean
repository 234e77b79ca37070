-- WHAT THE LISTS OF AN EDITION SAY: first paragraphs add up, no line twice, a second edition is the same
def CumL (L : List Pc) : Prop := ∀ (k : Nat) (x : Pc), L[k]? = some x → x.2.2.2.1 = Sm (fun j => (L.getD j.toNat (0, 0, 0, 0, 0)).2.2.2.2) 0 (k : Int)
theorem cum0 : CumL [] := fun k x hx => by simp at hx
theorem cum1 {x : Pc} (h : x.2.2.2.1 = 0) : CumL [x] := by
  intro k y hy
  have hk : k = 0 := by
    have := (List.getElem?_eq_some_iff.1 hy).1
    simp at this
    omega
  subst hk
  simp at hy
  subst hy
  rw [h]
  exact (Sm_nil (by omega)).symm
theorem cum2 {x y : Pc} (h : x.2.2.2.1 = 0) (h2 : y.2.2.2.1 = x.2.2.2.2) : CumL [x, y] := by
  intro k z hz
  have hk : k < 2 := by
    have := (List.getElem?_eq_some_iff.1 hz).1
    simp at this
    omega
  rcases (show k = 0 ∨ k = 1 by omega) with rfl | rfl
  · simp at hz
    subst hz
    rw [h]
    exact (Sm_nil (by omega)).symm
  · simp at hz
    subst hz
    rw [h2, show ((1 : Nat) : Int) = 0 + 1 from rfl, Sm_succ (Int.le_refl 0), Sm_nil (Int.le_refl 0), Int.zero_add]
    rfl
theorem cum3 {x y w : Pc} (h : x.2.2.2.1 = 0) (h2 : y.2.2.2.1 = x.2.2.2.2) (h3 : w.2.2.2.1 = x.2.2.2.2 + y.2.2.2.2) : CumL [x, y, w] := by
  intro k z hz
  have hk : k < 3 := by
    have := (List.getElem?_eq_some_iff.1 hz).1
    simp at this
    omega
  rcases (show k = 0 ∨ k = 1 ∨ k = 2 by omega) with rfl | rfl | rfl
  · simp at hz
    subst hz
    rw [h]
    exact (Sm_nil (by omega)).symm
  · simp at hz
    subst hz
    rw [h2, show ((1 : Nat) : Int) = 0 + 1 from rfl, Sm_succ (Int.le_refl 0), Sm_nil (Int.le_refl 0), Int.zero_add]
    rfl
  · simp at hz
    subst hz
    rw [h3, show ((2 : Nat) : Int) = 0 + 1 + 1 from rfl, Sm_succ (by omega), Sm_succ (Int.le_refl 0), Sm_nil (Int.le_refl 0), Int.zero_add]
    rfl
theorem place_cum {V : Nat → Int → Int} {T : Int → Int → Prop} {i : Int} : CumL (placeF V T i) := by
  unfold placeF
  split
  · split
    · exact cum0
    · unfold placeB
      split
      · split
        · exact cum0
        · unfold placeC
          split
          · exact cum0
          · exact cum3 rfl rfl rfl
      · exact cum2 rfl rfl
  · exact cum1 rfl
theorem old_cum {V : Nat → Int → Int} {i : Int} (hX : XWf V) (hi : 0 ≤ i ∧ i < 12) : CumL (oldL V i) := by
  intro k x hx
  obtain ⟨h1, rfl⟩ := oldL_at hx
  show V 17 (i * 3 + (k : Int)) = _
  rw [hX.1 i hi.1 hi.2 (k : Int) (by omega) h1]
  refine Sm_congr (fun j j0 j1 => ?_)
  have hl : j.toNat < (oldL V i).length := by
    have := oldL_len (V := V) (i := i) (by omega)
    omega
  have hg := List.getElem?_eq_getElem hl
  obtain ⟨-, e⟩ := oldL_at hg
  rw [List.getD_eq_getElem?_getD, hg, Option.getD_some, e]
  show V 18 (i * 3 + j) = V 18 (i * 3 + (j.toNat : Int))
  rw [show ((j.toNat : Nat) : Int) = j by omega]
theorem rs_cum {V : Nat → Int → Int} {i : Int} (hX : XWf V) (hi : 0 ≤ i ∧ i < 12) : CumL (rsL V i) := by
  unfold rsL nwL
  split
  · exact old_cum hX hi
  · exact place_cum
theorem cum_put {E : Nat → Int → Int} {i k : Int} {L : List Pc} (h : PutG E i L) (hc : CumL L) (k0 : 0 ≤ k) (k1 : k < E 11 i) : E 17 (i * 3 + k) = Sm (fun j => E 18 (i * 3 + j)) 0 k := by
  have hl : ∀ j : Int, 0 ≤ j → j < E 11 i → j.toNat < L.length := fun j j0 j1 => by
    have := h.1
    omega
  have ej : ∀ j : Int, 0 ≤ j → ((j.toNat : Nat) : Int) = j := fun j j0 => by omega
  have hk := hl k k0 k1
  have g := h.2 k.toNat L[k.toNat] (List.getElem?_eq_getElem hk)
  rw [ej k k0] at g
  have c := hc k.toNat L[k.toNat] (List.getElem?_eq_getElem hk)
  rw [ej k k0] at c
  rw [g.2.2.2.2.1, c]
  refine Sm_congr (fun j j0 j1 => ?_)
  have hj := hl j j0 (by omega)
  have g2 := h.2 j.toNat L[j.toNat] (List.getElem?_eq_getElem hj)
  rw [ej j j0] at g2
  rw [List.getD_eq_getElem?_getD, List.getElem?_eq_getElem hj, Option.getD_some, g2.2.2.2.2.2]
theorem tk_mono {V : Nat → Int → Int} {c l : Int} {a : Nat} : ∀ b : Nat, tkF V a c l → tkF V (a + b) c l
  | 0, h => h
  | b + 1, h => Or.inl (tk_mono b h)
theorem tk_of {V : Nat → Int → Int} {i c l : Int} {y : Nat} (hc : 0 ≤ V 3 3) (h0 : 0 ≤ i) (h1 : i < V 3 3) (h8 : V 8 i ≠ 0) (hy : ahV V i < y) (ho : OnL (rsL V i) c l) : tkF V y c l := by
  have b := (ahN_bd (rk := V 4) (al := V 8) (i := i) hc).1
  have b' : 0 ≤ ahV V i := b
  have g := (tkF_next (t := (ahV V i).toNat) (c := c) (l := l) h0 h1 h8 (by omega)).2 (Or.inr ho)
  have m := tk_mono (y - ((ahV V i).toNat + 1)) g
  rw [show (ahV V i).toNat + 1 + (y - ((ahV V i).toNat + 1)) = y by omega] at m
  exact m
theorem gd_free {V : Nat → Int → Int} {T : Int → Int → Prop} {L : List Pc} {c l : Int} (h : GdL V T L) (ho : OnL L c l) : ¬ T c l := by
  obtain ⟨x, hx, h1, h2, h3⟩ := ho
  obtain ⟨a1, a2, a3, -⟩ := h.2.1 x hx
  rw [h1]
  exact a3.2.2 l h2 h3
theorem rs_dis {V : Nat → Int → Int} {t i j c l : Int} (hW : PWf V t) (i0 : 0 ≤ i) (i1 : i < V 3 3) (i8 : V 8 i ≠ 0) (j0 : 0 ≤ j) (j1 : j < V 3 3) (j8 : V 8 j ≠ 0) (hn : i ≠ j) (a : OnL (rsL V i) c l) (b : OnL (rsL V j) c l) : False := by
  have hc := hW.1.2.2.2.1.1
  have ai : 0 ≤ ahV V i := (ahN_bd (rk := V 4) (al := V 8) (i := i) hc).1
  have aj : 0 ≤ ahV V j := (ahN_bd (rk := V 4) (al := V 8) (i := j) hc).1
  rcases (show ahV V i < ahV V j ∨ ahV V i = ahV V j ∨ ahV V j < ahV V i by omega) with z | z | z
  · exact gd_free (rs_gd hW ⟨j0, j1⟩) b (tk_of hc i0 i1 i8 (by omega) a)
  · exact hn (ah_inj (rk := V 4) ⟨i0, i1⟩ ⟨j0, j1⟩ i8 j8 z)
  · exact gd_free (rs_gd hW ⟨i0, i1⟩) a (tk_of hc j0 j1 j8 (by omega) b)
/-- what make leaves: V before, V' behind it, E the plan's edition -/
def Mk (V V' E : Nat → Int → Int) : Prop := EdC V E ∧ (∀ k, 3 ≤ k → k ≤ 8 → V' k = V k) ∧ (∀ i, 0 ≤ i → i < V 3 3 → V' 9 i = 0) ∧ ∀ k, 10 ≤ k → k ≤ 18 → ∀ i, 0 ≤ i → i < lenK k → V' k i = E k i
theorem lenK_s {k : Nat} (h1 : 13 ≤ k) (h2 : k ≤ 18) : lenK k = 36 := by
  rcases k13 h1 h2 with rfl | rfl | rfl | rfl | rfl | rfl <;> decide
theorem mk_alive {V V' E : Nat → Int → Int} {i k : Int} (h : Mk V V' E) (i0 : 0 ≤ i) (i1 : i < 12) (k0 : 0 ≤ k) (k1 : k < V' 11 i) : i < V 3 3 ∧ V 8 i ≠ 0 := by
  by_cases q : i < V 3 3 ∧ V 8 i ≠ 0
  · exact q
  · have e := (h.1.2.2 i i0 i1 q).1
    rw [h.2.2.2 11 (by omega) (by omega) i i0 (by show i < 12; exact i1)] at k1
    omega
theorem mk_put {V V' E : Nat → Int → Int} {t i : Int} (hW : PWf V t) (h : Mk V V' E) (i0 : 0 ≤ i) (i1 : i < V 3 3) (i8 : V 8 i ≠ 0) : PutG V' i (rsL V i) := by
  have w3 := hW.1.2.2.2.1
  refine (h.1.2.1 i i0 i1 i8).1.congr (rs_gd hW ⟨i0, i1⟩).1 (h.2.2.2 11 (by omega) (by omega) i i0 (by show i < 12; omega)) (fun k k1 k2 z z1 z2 => ?_)
  exact h.2.2.2 k (by omega) k2 z (by omega) (by rw [lenK_s k1 k2]; omega)
theorem made_x {V V' E : Nat → Int → Int} {t : Int} (hW : PWf V t) (hX : XWf V) (h : Mk V V' E) : XWf V' := by
  refine ⟨fun i i0 i1 k k0 k1 => ?_, fun i j c l i0 i1 j0 j1 hn a b => ?_⟩
  · obtain ⟨a1, a2⟩ := mk_alive h i0 i1 k0 k1
    exact cum_put (mk_put hW h i0 a1 a2) (rs_cum hX ⟨i0, i1⟩) k0 k1
  · have ha := a
    have hb := b
    obtain ⟨k, k0, k1, -⟩ := ha
    obtain ⟨k', k0', k1', -⟩ := hb
    obtain ⟨a1, a2⟩ := mk_alive h i0 i1 k0 k1
    obtain ⟨b1, b2⟩ := mk_alive h j0 j1 k0' k1'
    exact rs_dis hW i0 a1 a2 j0 b1 b2 hn ((OnP_put (mk_put hW h i0 a1 a2)).1 a) ((OnP_put (mk_put hW h j0 b1 b2)).1 b)
theorem put_old {V : Nat → Int → Int} {i : Int} {L : List Pc} (h : PutG V i L) : oldL V i = L := by
  have hl := oldL_len (V := V) (i := i) (by rw [h.1]; omega)
  have e := h.1
  apply List.ext_getElem?
  intro k
  by_cases q : k < L.length
  · have q' : k < (oldL V i).length := by omega
    have hx := List.getElem?_eq_getElem q'
    obtain ⟨-, ex⟩ := oldL_at hx
    obtain ⟨g1, g2, g3, g4, g5, g6⟩ := h.2 k L[k] (List.getElem?_eq_getElem q)
    rw [hx, ex, List.getElem?_eq_getElem q]
    refine congrArg some ?_
    unfold oldP
    rw [g1, g2, g3, g4, g5, g6]
    refine Prod.ext rfl (Prod.ext ?_ rfl)
    show L[k].2.1 / 60 * 60 + L[k].2.1 % 60 = L[k].2.1
    omega
  · rw [List.getElem?_eq_none (by omega), List.getElem?_eq_none (by omega)]
theorem again1 {V V' : Nat → Int → Int} {T : Int → Int → Prop} {i : Int} (hg : GdL V T (nwL V T i)) (hp : PutG V' i (nwL V T i)) (h9 : V' 9 i = 0) (hF : placeF V' T i = placeF V T i) : nwL V' T i = nwL V T i := by
  by_cases q : StyS V' T i
  · have e : nwL V' T i = oldL V' i := by
      unfold nwL
      rw [if_pos q]
    rw [e, put_old hp]
  · have e : nwL V' T i = placeF V' T i := by
      unfold nwL
      rw [if_neg q]
    have z : ¬ 0 < V' 11 i := fun z => q ⟨z, h9, fun c l _ _ _ _ o => gd_free hg ((OnP_put hp).1 o)⟩
    have z0 : (nwL V T i).length = 0 := by
      have := hp.1
      omega
    rw [e, hF]
    by_cases w : StyS V T i
    · have e2 : nwL V T i = oldL V i := by
        unfold nwL
        rw [if_pos w]
      have := oldL_len (V := V) (i := i) (by have := w.1; omega)
      have := w.1
      rw [e2] at z0
      omega
    · unfold nwL
      rw [if_neg w]
theorem again_ah {V V' : Nat → Int → Int} (h3 : ∀ k, 3 ≤ k → k ≤ 8 → V' k = V k) (i : Int) : ahV V' i = ahV V i := by
  unfold ahV
  rw [h3 3 (by omega) (by omega), h3 4 (by omega) (by omega), h3 8 (by omega) (by omega)]
theorem again_tk {V V' E : Nat → Int → Int} {t : Int} (hW : PWf V t) (h : Mk V V' E) : ∀ y : Nat, (y : Int) ≤ alN (V 8) (V 3 3) → tkF V' y = tkF V y
  | 0, _ => rfl
  | y + 1, hy => by
    have ih := again_tk hW h y (by omega)
    obtain ⟨i, i0, i1, i8, ia⟩ := ah_sur (rk := V 4) (al := V 8) (c := V 3 3) (t := (y : Int)) hW.1.2.2.2.1.1 (by omega) (by omega)
    have e3 := h.2.1 3 (by omega) (by omega)
    have e8 := h.2.1 8 (by omega) (by omega)
    have er : rsL V i = nwL V (tkF V y) i := by
      unfold rsL
      rw [show ahV V i = (y : Int) from ia, Int.toNat_natCast]
    have er' : rsL V' i = nwL V' (tkF V y) i := by
      unfold rsL
      rw [again_ah h.2.1, show ahV V i = (y : Int) from ia, Int.toNat_natCast, ih]
    have hp := mk_put hW h i0 i1 i8
    rw [er] at hp
    have e := again1 (nw_gd hW ⟨i0, i1⟩) hp (h.2.2.1 i i0 i1) (placeF_congr e3 (h.2.1 5 (by omega) (by omega)) (h.2.1 6 (by omega) (by omega)) (h.2.1 7 (by omega) (by omega)))
    funext c l
    refine propext ?_
    rw [tkF_next i0 i1 i8 ia, tkF_next (V := V') i0 (by rw [e3]; exact i1) (by rw [e8]; exact i8) (by rw [again_ah h.2.1]; exact ia), ih, er', er, e]
theorem again_rs {V V' E : Nat → Int → Int} {t i : Int} (hW : PWf V t) (h : Mk V V' E) (i0 : 0 ≤ i) (i1 : i < V 3 3) (i8 : V 8 i ≠ 0) : rsL V' i = rsL V i := by
  have hc := hW.1.2.2.2.1.1
  have b : 0 ≤ ahV V i := (ahN_bd (rk := V 4) (al := V 8) (i := i) hc).1
  have b2 : ahV V i < alN (V 8) (V 3 3) := ah_top ⟨i0, i1⟩ i8
  have hp := mk_put hW h i0 i1 i8
  have er' : rsL V' i = nwL V' (tkF V (ahV V i).toNat) i := by
    unfold rsL
    rw [again_ah h.2.1, again_tk hW h (ahV V i).toNat (by omega)]
  rw [er']
  exact again1 (nw_gd hW ⟨i0, i1⟩) hp (h.2.2.1 i i0 i1) (placeF_congr (h.2.1 3 (by omega) (by omega)) (h.2.1 5 (by omega) (by omega)) (h.2.1 6 (by omega) (by omega)) (h.2.1 7 (by omega) (by omega)))
theorem again_held {V V' E : Nat → Int → Int} {t : Int} (hW : PWf V t) (h : Mk V V' E) : heldN V' = heldN V := by
  unfold heldN SmA
  rw [h.2.1 3 (by omega) (by omega), h.2.1 8 (by omega) (by omega)]
  refine Sm_congr (fun j j0 j1 => ?_)
  by_cases q : V 8 j = 0
  · rw [if_pos q, if_pos q]
  · rw [if_neg q, if_neg q]
    show (if (rsL V' j).length = 0 then (1 : Int) else 0) = if (rsL V j).length = 0 then 1 else 0
    rw [again_rs hW h j0 j1 q]
theorem again_mv {V V' E : Nat → Int → Int} {t i : Int} (hW : PWf V t) (h : Mk V V' E) (i0 : 0 ≤ i) (i1 : i < V 3 3) (i8 : V 8 i ≠ 0) : mvB V' i = 0 := by
  have hp := mk_put hW h i0 i1 i8
  unfold mvB
  rw [again_rs hW h i0 i1 i8, if_neg]
  rintro ⟨-, z | ⟨k, x, hx, z⟩⟩
  · exact z hp.1.symm
  · obtain ⟨g1, g2, g3, g4, g5, g6⟩ := hp.2 k x hx
    rcases z with z | z | z | z
    · exact z g1.symm
    · exact z g2.symm
    · exact z g3.symm
    · exact z g5.symm
set_option maxHeartbeats 4000000 in
theorem c_make {Γ : GG} {d : Nat} {m : MI} {n : ML} {post : PO} {t : Int} (hI : Inv t m) (K : ∀ m' n' E, Step t m m' → Mk (Vw m 0) (Vw m' 0) E → post (some (vi (heldN (Vw m 0)))) m' n') : CM Γ (d + 7) 55 [vr 1 0] m n post := by
  obtain ⟨c0, c1, c2, c3⟩ := inv_cnt hI
  have hW := hI.1.1
  have w3 := hW.1.2.2.2.1
  refine e55 (b55_0 (c_save (d := d + 2) hI (fun mA sh hA => b55_4 ?_)))
  obtain ⟨hb0, a0, a1, a2⟩ := hA.at hI.2.1
  refine c_plan (p := 0) (V := Vw m 0) (by omega) (fun k k1 k2 => a0 k (by omega) (by omega)) hW (fun m1 n1 f1 ed => b55_19 (c_edCopy (by omega) (fun m2 o2 q2 => b55_33 ?_)))
  have e3 : m2 3 0 = m 3 0 := by rw [o2 3 0 (by omega), f1 3 0 (by omega) (by omega) (by omega), a0 3 (by omega) (by omega)]
  refine c_forgetChanges (by rw [e3]; exact c0) (by rw [e3]; exact c1) (fun m3 o3 q3 => b55_40 ?_)
  rw [e3] at q3
  have e11 : m3 11 8 = m1 11 8 := by rw [o3 11 8 (by omega), o2 11 8 (by omega)]
  have hb : PcOK m3 8 := by
    have := ed_ok (V := Vw m 0) (E := Vw m1 8) hW ed
    unfold PcOK
    rw [e11]
    exact this
  have eh := ed_held (V := Vw m 0) (E := Vw m1 8) hW ed
  rw [show Vw m1 8 11 = m1 11 8 from rfl] at eh
  refine c_heldOver hb (b55_47 ?_)
  rw [e11, eh]
  have h3 : ∀ k, 3 ≤ k → k ≤ 8 → Vw m3 0 k = Vw m 0 k := fun k k1 k2 => by
    show m3 k 0 = m k 0
    rw [o3 k 0 (by omega), o2 k 0 (by omega), f1 k 0 (by omega) (by omega) (by omega), a0 k (by omega) (by omega)]
  have h10 : ∀ k, 10 ≤ k → k ≤ 18 → ∀ i, 0 ≤ i → i < lenK k → Vw m3 0 k i = Vw m1 8 k i := fun k k1 k2 i i0 i1 => by
    show m3 k 0 i = m1 k 8 i
    rw [o3 k 0 (by omega), q2 k k1 k2 i i0 i1]
  have mk : Mk (Vw m 0) (Vw m3 0) (Vw m1 8) := ⟨ed, h3, q3, h10⟩
  refine K m3 n1 (Vw m1 8) ⟨mA, sh, hA, fun k r k1 z => ?_, ⟨made_wf (V := Vw m 0) (E := Vw m1 8) hW ed h3 q3 h10, made_x hW hI.1.2 mk⟩⟩ mk
  rw [o3 k r (by omega), o2 k r (by omega), f1 k r (by omega) (by omega) (by omega)]
theorem op_make {Γ : GG} {d : Nat} {m : MI} {n : ML} {t : Int} (hI : Inv t m) : Opp Γ (d + 7) 55 [vr 1 0] m n t :=
  c_make hI (fun m' n' E hs _ => by
    have hh := heldN_bd (V := Vw m 0) hI.1.1.1.2.2.2.1
    exact ⟨_, ir (by omega) (by omega), rfl, Or.inr ⟨hh.1, hs⟩⟩)
