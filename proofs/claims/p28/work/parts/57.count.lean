-- the free lines are counted
noncomputable def frN (T : Int → Int → Prop) (P K H : Int) : Int := Sm (fun p => Sm (fun c => Sm (fun l => @ite Int (T (p * 4 + c) l) (Classical.propDecidable _) 0 1) 0 H) 0 K) 0 P
theorem Sm_upd {f g : Int → Int} {i b v : Int} (hi : 0 ≤ i ∧ i < b) (hne : ∀ j, 0 ≤ j → j < b → j ≠ i → f j = g j) (he : f i = g i - v) : Sm f 0 b = Sm g 0 b - v := by
  have z : ∀ x, 0 ≤ x → x ≤ b → Sm f 0 x = Sm g 0 x - (if i < x then v else 0) := by
    refine nat_ind 0 b ?_ ?_
    · rw [Sm_nil (Int.le_refl 0), Sm_nil (Int.le_refl 0), if_neg (by omega)]; omega
    · intro x x0 x1 ih
      rw [Sm_succ x0, Sm_succ x0, ih]
      by_cases q : x = i
      · rw [if_neg (by omega), if_pos (by omega), q, he]; omega
      · rw [hne x x0 x1 q]
        by_cases w : i < x
        · rw [if_pos w, if_pos (by omega)]; omega
        · rw [if_neg w, if_neg (by omega)]; omega
  rw [z b (by omega) (Int.le_refl b), if_pos hi.2]
theorem Sm_seg {f g : Int → Int} {t s b : Int} (ht : 0 ≤ t) (hs : 0 ≤ s) (hb : t + s ≤ b) (hi : ∀ j, t ≤ j → j < t + s → f j = g j - 1) (ho : ∀ j, 0 ≤ j → j < b → ¬ (t ≤ j ∧ j < t + s) → f j = g j) : Sm f 0 b = Sm g 0 b - s := by
  have z : ∀ x, 0 ≤ x → x ≤ b → Sm f 0 x = Sm g 0 x - (if x ≤ t then 0 else if x ≤ t + s then x - t else s) := by
    refine nat_ind 0 b ?_ ?_
    · rw [Sm_nil (Int.le_refl 0), Sm_nil (Int.le_refl 0), if_pos ht]; omega
    · intro x x0 x1 ih
      rw [Sm_succ x0, Sm_succ x0, ih]
      by_cases q : t ≤ x ∧ x < t + s
      · rw [hi x q.1 q.2]
        (repeat' split) <;> omega
      · rw [ho x x0 x1 q]
        (repeat' split) <;> omega
  rw [z b (by omega) (Int.le_refl b)]
  (repeat' split) <;> omega
theorem fr_put {V : Nat → Int → Int} {T : Int → Int → Prop} {x : Pc} {t : Int} (hW : HWf V t) (h : GdP V T x) : frN (fun c l => T c l ∨ OnX x c l) (V 3 0) (V 3 1) (V 3 2) = frN T (V 3 0) (V 3 1) (V 3 2) - x.2.2.1 := by
  obtain ⟨a1, a2, a3, a4, _⟩ := h
  have b1 := a3.1
  have b2 := a3.2.1
  have w1 := hW.2.1
  unfold frN
  refine Sm_upd a1 (fun p p0 p1 pn => ?_) ?_
  · refine Sm_congr (fun c c0 c1 => Sm_congr (fun l l0 l1 => ?_))
    have : ¬ OnX x (p * 4 + c) l := by
      rintro ⟨o1, o2, o3⟩
      omega
    by_cases q : T (p * 4 + c) l
    · rw [if_pos q, if_pos (Or.inl q)]
    · rw [if_neg q, if_neg (fun u => u.elim q this)]
  · refine Sm_upd ⟨by omega, a2.2⟩ (fun c c0 c1 cn => ?_) ?_
    · refine Sm_congr (fun l l0 l1 => ?_)
      have : ¬ OnX x (x.1 * 4 + c) l := by
        rintro ⟨o1, o2, o3⟩
        omega
      by_cases q : T (x.1 * 4 + c) l
      · rw [if_pos q, if_pos (Or.inl q)]
      · rw [if_neg q, if_neg (fun u => u.elim q this)]
    · refine Sm_seg b1 (by omega) b2 (fun l l0 l1 => ?_) (fun l l0 l1 ln => ?_)
      · rw [if_pos (Or.inr ⟨rfl, l0, l1⟩), if_neg (a3.2.2 l l0 l1)]
        rfl
      · have : ¬ OnX x (x.1 * 4 + x.2.1 / 60) l := by
          rintro ⟨o1, o2, o3⟩
          exact ln ⟨o2, o3⟩
        by_cases q : T (x.1 * 4 + x.2.1 / 60) l
        · rw [if_pos q, if_pos (Or.inl q)]
        · rw [if_neg q, if_neg (fun u => u.elim q this)]
/-- the lines of a list of pieces -/
def szL : List Pc → Int
  | [] => 0
  | x :: r => x.2.2.1 + szL r
theorem fr_list {V : Nat → Int → Int} {t : Int} (hW : HWf V t) : ∀ (L : List Pc) (T : Int → Int → Prop), (∀ x, x ∈ L → GdP V T x) → L.Pairwise (fun x y => x.1 ≠ y.1) → frN (fun c l => T c l ∨ OnL L c l) (V 3 0) (V 3 1) (V 3 2) = frN T (V 3 0) (V 3 1) (V 3 2) - szL L := by
  intro L
  induction L with
  | nil =>
    intro T _ _
    have : (fun c l => T c l ∨ OnL [] c l) = T := by
      funext c l
      exact propext ⟨fun u => u.elim id (fun v => absurd v OnL_nil), Or.inl⟩
    rw [this]
    unfold szL
    omega
  | cons x L ih =>
    intro T hg hp
    have hx := hg x (List.mem_cons_self)
    rw [List.pairwise_cons] at hp
    have e : (fun c l => T c l ∨ OnL (x :: L) c l) = (fun c l => (T c l ∨ OnX x c l) ∨ OnL L c l) := by
      funext c l
      refine propext ⟨fun u => ?_, fun u => ?_⟩
      · rcases u with u | ⟨y, hy, g⟩
        · exact Or.inl (Or.inl u)
        · rcases List.mem_cons.1 hy with rfl | hy
          · exact Or.inl (Or.inr g)
          · exact Or.inr ⟨y, hy, g⟩
      · rcases u with (u | g) | ⟨y, hy, g⟩
        · exact Or.inl u
        · exact Or.inr ⟨x, List.mem_cons_self, g⟩
        · exact Or.inr ⟨y, List.mem_cons_of_mem _ hy, g⟩
    have ap := ih (fun c l => T c l ∨ OnX x c l) (fun y hy => ?_) hp.2
    · rw [e, ap, fr_put hW hx]
      show _ = _ - (x.2.2.1 + szL L)
      omega
    · obtain ⟨a1, a2, a3, a4, a5⟩ := hg y (List.mem_cons_of_mem _ hy)
      refine ⟨a1, a2, ⟨a3.1, a3.2.1, fun j j1 j2 u => u.elim (a3.2.2 j j1 j2) (fun v => ?_)⟩, a4, a5⟩
      obtain ⟨o1, o2, o3⟩ := v
      have w1 := hW.2.1
      have hx2 := hx.2.1
      exact hp.1 y hy (by omega)
theorem Sm_const {c n : Int} (h : 0 ≤ n) : Sm (fun _ => c) 0 n = c * n := by
  have : ∀ x, 0 ≤ x → x ≤ n → Sm (fun _ => c) 0 x = c * x := by
    refine nat_ind 0 n ?_ ?_
    · rw [Sm_nil (Int.le_refl 0)]; omega
    · intro x x0 x1 ih
      rw [Sm_succ x0, ih, Int.mul_add, Int.mul_one]
  exact this n h (Int.le_refl n)
theorem fr_none {P K H : Int} (hP : 0 ≤ P) (hK : 0 ≤ K) (hH : 0 ≤ H) : frN (fun _ _ => False) P K H = P * K * H := by
  have e : frN (fun _ _ => False) P K H = Sm (fun _ => Sm (fun _ => Sm (fun _ => 1) 0 H) 0 K) 0 P := by
    unfold frN
    refine Sm_congr (fun p _ _ => Sm_congr (fun c _ _ => Sm_congr (fun l _ _ => ?_)))
    rw [if_neg (fun u => u)]
  rw [e, Sm_const hP, Sm_const hK, Sm_const hH, Int.one_mul, Int.mul_comm (H * K) P, Int.mul_comm H K, ← Int.mul_assoc]
theorem fr_turn {V : Nat → Int → Int} {t : Int} (hW : PWf V t) : ∀ y, 0 ≤ y → y ≤ alN (V 8) (V 3 3) → frN (tkF V y.toNat) (V 3 0) (V 3 1) (V 3 2) = V 3 0 * V 3 1 * V 3 2 - SmT (fun i => szL (rsL V i)) V y := by
  have w := hW.1
  have w0 := w.1
  have w1 := w.2.1
  have w2 := w.2.2.1
  have w3 := w.2.2.2.1
  refine nat_ind 0 _ ?_ ?_
  · rw [SmT_zero w3.1]
    have := fr_none (P := V 3 0) (K := V 3 1) (H := V 3 2) (by omega) (by omega) (by omega)
    rw [Int.sub_zero, ← this]
    rfl
  · intro y y0 y1 ih
    obtain ⟨i, i0, i1, i8, ia⟩ := ah_sur (rk := V 4) (al := V 8) (c := V 3 3) w3.1 y0 y1
    have e : tkF V (y + 1).toNat = fun c l => tkF V y.toNat c l ∨ OnL (rsL V i) c l := by
      funext c l
      rw [show (y + 1).toNat = y.toNat + 1 by omega]
      exact propext (tkF_next i0 i1 i8 (show ahV V i = (y.toNat : Int) by have : ahV V i = y := ia; omega))
    have g := rs_gd hW ⟨i0, i1⟩
    rw [show (ahV V i).toNat = y.toNat by rw [show ahV V i = y from ia]] at g
    rw [e, fr_list w _ _ g.2.1 g.2.2, ih, SmT_next (g := fun i => szL (rsL V i)) i0 i1 i8 ia]
    omega
theorem put_sz {E : Nat → Int → Int} {i : Int} : ∀ {L : List Pc}, PutG E i L → L.length ≤ 3 → Sm (fun k => E 16 (i * 3 + k)) 0 (E 11 i) = szL L
  | [], h, _ => by
    have e : E 11 i = 0 := h.1
    rw [e, Sm_nil (Int.le_refl 0)]
    rfl
  | [x], h, _ => by
    have e : E 11 i = 1 := h.1
    have g0 := (h.2 0 x rfl).2.2.2.1
    rw [e, show (1 : Int) = 0 + 1 by omega, Sm_succ (Int.le_refl 0), Sm_nil (Int.le_refl 0)]
    show 0 + E 16 (i * 3 + 0) = x.2.2.1 + 0
    rw [show E 16 (i * 3 + 0) = x.2.2.1 from g0]
    omega
  | [x, y], h, _ => by
    have e : E 11 i = 2 := h.1
    have g0 := (h.2 0 x rfl).2.2.2.1
    have g1 := (h.2 1 y rfl).2.2.2.1
    rw [e, show (2 : Int) = 0 + 1 + 1 by omega, Sm_succ (by omega), Sm_succ (Int.le_refl 0), Sm_nil (Int.le_refl 0)]
    show 0 + E 16 (i * 3 + 0) + E 16 (i * 3 + (0 + 1)) = x.2.2.1 + (y.2.2.1 + 0)
    rw [show E 16 (i * 3 + 0) = x.2.2.1 from g0, show E 16 (i * 3 + (0 + 1)) = y.2.2.1 from g1]
    omega
  | [x, y, z], h, _ => by
    have e : E 11 i = 3 := h.1
    have g0 := (h.2 0 x rfl).2.2.2.1
    have g1 := (h.2 1 y rfl).2.2.2.1
    have g2 := (h.2 2 z rfl).2.2.2.1
    rw [e, show (3 : Int) = 0 + 1 + 1 + 1 by omega, Sm_succ (by omega), Sm_succ (by omega), Sm_succ (Int.le_refl 0), Sm_nil (Int.le_refl 0)]
    show 0 + E 16 (i * 3 + 0) + E 16 (i * 3 + (0 + 1)) + E 16 (i * 3 + (0 + 1 + 1)) = x.2.2.1 + (y.2.2.1 + (z.2.2.1 + 0))
    rw [show E 16 (i * 3 + 0) = x.2.2.1 from g0, show E 16 (i * 3 + (0 + 1)) = y.2.2.1 from g1, show E 16 (i * 3 + (0 + 1 + 1)) = z.2.2.1 from g2]
    omega
  | _ :: _ :: _ :: _ :: _, _, h => absurd h (by simp)
theorem ed_ok {V E : Nat → Int → Int} {t : Int} (hW : PWf V t) (h : EdC V E) : ∀ i, 0 ≤ i → i < 12 → -1 ≤ E 11 i ∧ E 11 i ≤ 3 := by
  intro i i0 i1
  by_cases q : i < V 3 3 ∧ V 8 i ≠ 0
  · have a := (h.2.1 i i0 q.1 q.2).1.1
    have b := (rs_gd hW ⟨i0, q.1⟩).1
    omega
  · have a := (h.2.2 i i0 i1 q).1
    omega
theorem ed_held {V E : Nat → Int → Int} {t : Int} (hW : PWf V t) (h : EdC V E) : hoN (E 11) 12 = heldN V := by
  have w3 := hW.1.2.2.2.1
  unfold hoN heldN SmA
  rw [Sm_tail (b := V 3 3) w3.1 w3.2 (fun j j0 j1 => by
    have := (h.2.2 j (by omega) j1 (by omega)).1
    rw [if_neg (by omega)])]
  refine Sm_congr (fun j j0 j1 => ?_)
  by_cases q : V 8 j = 0
  · have := (h.2.2 j j0 (by omega) (fun u => u.2 q)).1
    rw [if_pos q, if_neg (by omega)]
  · have := (h.2.1 j j0 j1 q).1.1
    rw [if_neg q]
    show (if E 11 j = 0 then (1 : Int) else 0) = if (rsL V j).length = 0 then 1 else 0
    by_cases u : (rsL V j).length = 0
    · rw [if_pos u, if_pos (by omega)]
    · rw [if_neg u, if_neg (by omega)]
theorem ed_free {V E : Nat → Int → Int} {t : Int} (hW : PWf V t) (h : EdC V E) : E 10 1 * E 10 2 * E 10 3 - szN (E 11) (E 16) 12 = frN (tkF V (alN (V 8) (V 3 3)).toNat) (V 3 0) (V 3 1) (V 3 2) := by
  have w3 := hW.1.2.2.2.1
  have ab := alN_bd (al := V 8) (c := V 3 3) w3.1
  rw [fr_turn hW _ ab.1 (Int.le_refl _), SmT_top, h.1.2.1, h.1.2.2.1, h.1.2.2.2]
  congr 1
  unfold szN SmA
  rw [Sm_tail (b := V 3 3) w3.1 w3.2 (fun j j0 j1 => by
    have := (h.2.2 j (by omega) j1 (by omega)).1
    rw [Sm_nil (by omega)])]
  refine Sm_congr (fun j j0 j1 => ?_)
  by_cases q : V 8 j = 0
  · have := (h.2.2 j j0 (by omega) (fun u => u.2 q)).1
    rw [if_pos q, Sm_nil (by omega)]
  · rw [if_neg q]
    exact put_sz (h.2.1 j j0 j1 q).1 (rs_gd hW ⟨j0, j1⟩).1
