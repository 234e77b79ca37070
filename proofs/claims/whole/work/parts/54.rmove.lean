-- the reference: moved or not; its searches by the spec
theorem r_moves0 {Γ : GG} {d : Nat} {m : MI} {n : ML} {post : PO} {i t : Int} {V : Nat → Int → Int} (hP : PRel V (m 26 0)) (hW : PWf V t) (ht : t ≤ 1000) (hi : 0 ≤ i ∧ i < V 3 3) (h0 : m 32 0 (20 * i) = -9) (K : post (some (vi 0)) m n) : CM Γ d 134 [vr 25 0, vi i] m n post := by
  have w := hW.1
  have w3 := w.2.2.2.1
  have w4 := w.2.2.2.2.1
  have he := hW.2.2 i hi.1 (by omega)
  have e1 := he.1
  have r4 := hP.1.2.2.2.2.1
  have eN := (hP.2 i hi.1 hi.2).2.1
  have nb : -9 ≤ m 26 0 (164 + 20 * i) ∧ m 26 0 (164 + 20 * i) ≤ 3 := by
    rw [eN]; split <;> omega
  refine e134 (b134_0 (by rw [r4]; omega) (fun _ => b134_43 K) (fun _ => b134_25 (by omega) (by omega) (fun _ => b134_43 K) (fun _ => b134_34 (by omega) (by omega) (fun z => absurd z (by omega)) (fun _ => b134_43 K))))
set_option maxHeartbeats 4000000 in
theorem r_moves {Γ : GG} {d : Nat} {m : MI} {n : ML} {post : PO} {i t : Int} {V : Nat → Int → Int} {T : Int → Int → Prop} {L : List Pc} (hP : PRel V (m 26 0)) (hW : PWf V t) (ht : t ≤ 1000) (hi : 0 ≤ i ∧ i < V 3 3) (hg : GdL V T L) (h : PutR (m 32 0) i L) (K1 : MvdL V i L → post (some (vi 1)) m n) (K0 : ¬ MvdL V i L → post (some (vi 0)) m n) : CM Γ d 134 [vr 25 0, vi i] m n post := by
  have w := hW.1
  have w0 := w.1
  have w1 := w.2.1
  have w2 := w.2.2.1
  have w3 := w.2.2.2.1
  have w4 := w.2.2.2.2.1
  have he := hW.2.2 i hi.1 (by omega)
  have e1 := he.1
  have e3 := he.2.2.1
  have r4 := hP.1.2.2.2.2.1
  have eR := (hP.2 i hi.1 hi.2).2
  have eN := eR.1
  have nb : -9 ≤ m 26 0 (164 + 20 * i) ∧ m 26 0 (164 + 20 * i) ≤ 3 := by
    rw [eN]; split <;> omega
  have np : 0 < m 26 0 (164 + 20 * i) → m 26 0 (164 + 20 * i) = V 11 i := by
    rw [eN]; split <;> omega
  have nq : 0 < V 11 i → 0 < m 26 0 (164 + 20 * i) := by
    rw [eN]; split <;> omega
  have fl := h.1
  have gl := hg.1
  refine e134 (b134_0 (by rw [r4]; omega) (fun z => b134_43 (K0 (fun q => ?_))) (fun _ => b134_25 (by omega) (by omega) (fun z => b134_43 (K0 (fun q => ?_))) (fun z1 => b134_34 (by omega) (by omega) (fun z2 => ?_) (fun z => b134_43 (K0 (fun q => ?_))))))
  · have := q.1.2
    have := e3 (by omega)
    omega
  · exact z (nq q.1.2)
  · have e11 := np z1
    -- the loop
    have stop : ∀ y o6 o7, (0 ≤ y ∧ y ≤ 4) → MvdL V i L → AM Γ d 134 70 [some (vr 25 0), some (vi i), some (vi (164 + 20 * i)), some (vi (20 * i)), some (vi 1), some (vi y), o6, o7] [] m n post := fun y o6 o7 hy q =>
      b134_70 (by omega) (by omega) (by omega) (fun _ => b134_201 (Or.inr rfl) (K1 q)) (fun _ => b134_81 (by omega) (fun _ => b134_201 (Or.inr rfl) (K1 q)) (fun u => absurd u (by omega)))
    refine b134_45 (by omega) (by omega) (by omega) (by omega) (fun q => b134_64 (b134_65 ?_)) (fun q => b134_60 (b134_65 (stop 0 _ _ (by omega) ⟨⟨by omega, by omega⟩, Or.inl (by omega)⟩)))
    have key := up_ind (P := fun y => 0 ≤ y → ∀ o6 o7, (∀ (k : Nat) x, (k : Int) < y → L[k]? = some x → x.1 = V 13 (i * 3 + k) ∧ x.2.1 / 60 = V 14 (i * 3 + k) ∧ x.2.1 % 60 = V 15 (i * 3 + k) ∧ x.2.2.2.1 = V 17 (i * 3 + k)) → AM Γ d 134 70 [some (vr 25 0), some (vi i), some (vi (164 + 20 * i)), some (vi (20 * i)), some (vi 0), some (vi y), o6, o7] [] m n post) 0 (L.length : Int) (by omega) ?_ ?_
    · exact key (by omega) _ _ (fun k x k1 => by omega)
    · intro _ o6 o7 hk
      refine b134_70 (by omega) (by omega) (by omega) (fun _ => b134_201 (Or.inl rfl) (K0 ?_)) (fun u => absurd u (by omega))
      rintro ⟨_, u | ⟨k, x, hx, u⟩⟩
      · omega
      · have kl : k < L.length := (List.getElem?_eq_some_iff.1 hx).1
        obtain ⟨g1, g2, g3, g4⟩ := hk k x (by omega) hx
        rcases u with u | u | u | u
        · exact u g1
        · exact u g2
        · exact u g3
        · exact u g4
    · intro y y1 y2 ih y0 o6 o7 hk
      have hl : y.toNat < L.length := by omega
      have ey : ((y.toNat : Nat) : Int) = y := by omega
      have hx := List.getElem?_eq_getElem hl
      obtain ⟨g1, g2, g3, g4, g5, g6⟩ := h.2 y.toNat L[y.toNat] hx
      obtain ⟨a1, a2, a3, a4, a5, a6⟩ := hg.2.1 L[y.toNat] (List.getElem_mem hl)
      have b1 := a3.1
      have b2 := a3.2.1
      rw [ey] at g1 g2 g3 g4 g5 g6
      have b := ed_bd w he (k := y) y0 (by omega)
      have wb := w.2.2.2.2.2 b.1
      obtain ⟨p1, p2, p3, p4, p5, p6⟩ := eR.2.2 y y0 (by omega)
      rw [show 166 + 20 * i + 6 * y = 164 + 20 * i + 2 + 6 * y by omega] at p1 p2 p3 p4 p5 p6
      have mv : (L[y.toNat].1 ≠ V 13 (i * 3 + y) ∨ L[y.toNat].2.1 / 60 ≠ V 14 (i * 3 + y) ∨ L[y.toNat].2.1 % 60 ≠ V 15 (i * 3 + y) ∨ L[y.toNat].2.2.2.1 ≠ V 17 (i * 3 + y)) → MvdL V i L := fun u => ⟨⟨by omega, by omega⟩, Or.inr ⟨y.toNat, L[y.toNat], hx, by rw [ey]; exact u⟩⟩
      have no : ∀ o6 o7, MvdL V i L → AM Γ d 134 188 [some (vr 25 0), some (vi i), some (vi (164 + 20 * i)), some (vi (20 * i)), some (vi 0), some (vi y), some (vi o6), some (vi o7)] [] m n post := fun o6 o7 q => b134_188 (b134_193 (stop (y + 1) _ _ (by omega) q))
      refine b134_70 (by omega) (by omega) (by omega) (fun u => absurd (show y < m 32 0 (20 * i) by omega) u) (fun _ => b134_81 (by omega) (fun u => absurd rfl u) (fun _ => ?_))
      refine b134_86 (by omega) (by omega) (by rw [p1]; omega) (by rw [g1]; omega) (fun u => no _ _ (mv (Or.inl (fun e => u (by rw [p1, g1, e]))))) (fun u1 => ?_)
      refine b134_125 (by omega) (by omega) (by rw [p2]; omega) (by rw [g2]; omega) (fun u => no _ _ (mv (Or.inr (Or.inl (fun e => u (by rw [p2, g2, e])))))) (fun u2 => ?_)
      refine b134_146 (by omega) (by omega) (by rw [p3]; omega) (by rw [g3]; omega) (fun u => no _ _ (mv (Or.inr (Or.inr (Or.inl (fun e => u (by rw [p3, g3, e]))))))) (fun u3 => ?_)
      refine b134_167 (by omega) (by omega) (by rw [p5]; omega) (by rw [g5]; omega) (fun u4 => b134_192 (b134_193 (ih (by omega) _ _ (fun k x k1 hx2 => ?_)))) (fun u => no _ _ (mv (Or.inr (Or.inr (Or.inr (fun e => u (by rw [p5, g5, e])))))))
      rcases (show (k : Int) < y ∨ k = y.toNat by omega) with v | v
      · exact hk k x v hx2
      · rw [v, hx] at hx2
        simp at hx2
        rw [← hx2, v, ey]
        rw [p1, g1] at u1
        rw [p2, g2] at u2
        rw [p3, g3] at u3
        rw [p5, g5] at u4
        exact ⟨u1.symm, u2.symm, u3.symm, u4.symm⟩
  · have := q.1.1
    omega
theorem Sm_ge {f : Int → Int} {a b : Int} (hab : a ≤ b) (h : ∀ j, a ≤ j → j < b → 1 ≤ f j) : b - a ≤ Sm f a b := by
  have : ∀ x, a ≤ x → x ≤ b → x - a ≤ Sm f a x := by
    refine nat_ind a b ?_ ?_
    · rw [Sm_nil (Int.le_refl a)]; omega
    · intro x h1 h2 ih
      rw [Sm_succ h1]
      have := h x h1 h2
      omega
  exact this b hab (Int.le_refl b)
theorem lnV_bd {V : Nat → Int → Int} {i a c : Int} (hs : SWf V i) (ha : 0 ≤ a) (hc : 0 ≤ c) (hac : a + c ≤ V 6 i) : c ≤ lnV V i a c ∧ lnV V i a c ≤ 30 * c := by
  have h1 := Sm_ge (f := fun j => V 7 (i * 8 + j)) (a := a) (b := a + c) (by omega) (fun j j1 j2 => (hs.2.2.2.2.2.1 j (by omega) (by omega)).1)
  have h2 := Sm_bd (f := fun j => V 7 (i * 8 + j)) (a := a) (b := a + c) (c := 30) (by omega) (fun j j1 j2 => by
    have := hs.2.2.2.2.2.1 j (by omega) (by omega)
    omega)
  unfold lnV
  omega
theorem r_lnV {Γ : GG} {d : Nat} {m : MI} {n : ML} {post : PO} {i a c t : Int} {V : Nat → Int → Int} (hP : PRel V (m 26 0)) (hW : PWf V t) (hi : 0 ≤ i ∧ i < V 3 3) (ha : 0 ≤ a) (hc : 0 ≤ c) (hac : a + c ≤ V 6 i) (K : post (some (vi (lnV V i a c))) m n) : CM Γ (d + 1) 112 [vr 25 0, vi i, vi a, vi c] m n post := by
  have w3 := hW.1.2.2.2.1
  have h6 := (hW.2.1 i hi.1 hi.2).2.2.1
  refine r_lines ⟨hi.1, by omega⟩ ha hc (by omega) ?_
  have e : Sm (fun j => m 26 0 (9 + 13 * i + j)) a (a + c) = lnV V i a c := by
    unfold lnV
    exact Sm_congr (fun j j1 j2 => (hP.2 i hi.1 hi.2).1.2.2.2.2.2 j (by omega) (by omega))
  rw [e]
  exact K
theorem r_gapV {Γ : GG} {d : Nat} {m : MI} {n : ML} {post : PO} {p s t : Int} {V : Nat → Int → Int} {T : Int → Int → Prop} (hP : PRel V (m 26 0)) (hW : PWf V t) (hp : 0 ≤ p ∧ p < V 3 0) (hs : 1 ≤ s ∧ s ≤ 1000) (hT : ∀ c j, 0 ≤ c → c < 4 → 0 ≤ j → j < 60 → (Tm m (p * 4 + c) j ↔ T (p * 4 + c) j)) (K0 : plG V T p s = -1 → post (some (vi (-9))) m n) (K1 : plG V T p s ≠ -1 → (0 ≤ plG V T p s ∧ plG V T p s < 240) → post (some (vi (plG V T p s))) m n) : CM Γ (d + 1) 126 [vr 25 0, vi p, vi s] m n post := by
  have w := hW.1
  have w0 := w.1
  have w1 := w.2.1
  have w2 := w.2.2.1
  refine r_gap hP.1.2.1 hP.1.2.2.1 w1 ⟨by omega, by omega⟩ (by omega) (ir (by omega) (by omega)) hs.1 (fun r hr => ?_)
  have rb := hr.bd w1.2 w2.2
  have ge : plG V T p s = r := gapF_eq (hr.congr (U := T) (fun c j c0 c1 j0 j1 => hT c j c0 (by omega) j0 (by omega)))
  rw [ge] at K0 K1
  by_cases q : r = -1
  · rw [if_pos q]; exact K0 q
  · rw [if_neg q]; exact K1 q (by omega)
theorem r_pgV {Γ : GG} {d : Nat} {m : MI} {n : ML} {post : PO} {i s w ex t : Int} {V : Nat → Int → Int} {T : Int → Int → Prop} (hP : PRel V (m 26 0)) (hW : PWf V t) (hi : 0 ≤ i ∧ i < V 3 3) (hs : 1 ≤ s ∧ s ≤ 1000) (hw : InR w) (hex : ∀ q, 0 ≤ q → (q = w ↔ q = ex)) (hT : ∀ q, 0 ≤ q → q < V 3 0 → q ≠ V 5 i → q ≠ ex → ∀ c j, 0 ≤ c → c < 4 → 0 ≤ j → j < 60 → (Tm m (q * 4 + c) j ↔ T (q * 4 + c) j)) (K0 : plQ V T i s ex = -1 → post (some (vi (-9))) m n) (K1 : plQ V T i s ex ≠ -1 → post (some (vi (plQ V T i s ex))) m n) : CM Γ (d + 2) 130 [vr 25 0, vi (V 5 i), vi s, vi w] m n post := by
  have ww := hW.1
  have w0 := ww.1
  have w1 := ww.2.1
  have w2 := ww.2.2.1
  have hs5 := (hW.2.1 i hi.1 hi.2).2.1
  refine r_pageFor (ex := ex) (T := T) hP.1.1 hP.1.2.1 hP.1.2.2.1 w0 hs5 w1 ⟨by omega, by omega⟩ (ir (by omega) (by omega)) hs.1 hw hex hT (fun r hr => ?_)
  have e : r = plQ V T i s ex := hr
  rw [e]
  by_cases q : plQ V T i s ex = -1
  · rw [if_pos q]; exact K0 q
  · rw [if_neg q]; exact K1 q
