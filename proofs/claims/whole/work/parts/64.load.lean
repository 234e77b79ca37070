-- the pair of calls: load
/-- the reference goes the class's way through all stories -/
def RefL (Γ : GG) (d : Nat) (C : Int → Int) (N : Int) (m : MI) (p : Int) (R : MI → Int → Prop) (b : Int) : Prop := ∀ (mm : MI) (r : Int) (nn : ML) (post2 : PO), TxR C N mm → PRel (Vw m 1) (mm 26 0) → mm 25 0 6 = r → 0 ≤ r → SkR C N r p → (∀ mm' r', FrM mm mm' → mm' 25 0 6 = r' → R mm' r' → AM Γ (d + 4) 124 53 [some (vr 25 0), some (vi b), none] [] mm' nn post2) → AM Γ (d + 4) 124 34 [some (vr 25 0), some (vi 1), none] [] mm nn post2
set_option maxHeartbeats 4000000 in
theorem c_stories {Γ : GG} {d d2 : Nat} {n : ML} {post : PO} {C : Int → Int} {N t c0 : Int} (hc0 : 0 ≤ c0) : ∀ x, c0 ≤ x → x ≤ 12 → ∀ (m : MI) (q : Int), TxC C N m → PWf (Vw m 1) t → m 3 1 3 = x → m 19 0 2 = q → (0 ≤ q ∧ q ≤ N) → (q < N → C q ≠ 32) → m 19 0 3 = -1 →
    (∀ m', FrS m m' → PWf (Vw m' 1) t → m' 19 0 3 = -1 → RefL Γ d2 C N m q (fun mm' _ => PRel (Vw m' 1) (mm' 26 0)) 1 → post (some (vi (-1))) m' n) →
    (∀ m' w, FrS m m' → m' 19 0 3 = w → (0 ≤ w ∧ w ≤ N) → RefL Γ d2 C N m q (fun _ r' => r' = w) 0 → post (some (vi w)) m' n) → AM Γ (d + 5) 47 16 [some (vr 19 0), some (vr 3 1), some (vi (x - c0))] [] m n post := by
  intro x x0 x1
  have body : ∀ x, c0 ≤ x → x ≤ 12 → (x < 12 → ∀ (m : MI) (q : Int), TxC C N m → PWf (Vw m 1) t → m 3 1 3 = x + 1 → m 19 0 2 = q → (0 ≤ q ∧ q ≤ N) → (q < N → C q ≠ 32) → m 19 0 3 = -1 →
    (∀ m', FrS m m' → PWf (Vw m' 1) t → m' 19 0 3 = -1 → RefL Γ d2 C N m q (fun mm' _ => PRel (Vw m' 1) (mm' 26 0)) 1 → post (some (vi (-1))) m' n) →
    (∀ m' w, FrS m m' → m' 19 0 3 = w → (0 ≤ w ∧ w ≤ N) → RefL Γ d2 C N m q (fun _ r' => r' = w) 0 → post (some (vi w)) m' n) → AM Γ (d + 5) 47 16 [some (vr 19 0), some (vr 3 1), some (vi (x + 1 - c0))] [] m n post) →
    ∀ (m : MI) (q : Int), TxC C N m → PWf (Vw m 1) t → m 3 1 3 = x → m 19 0 2 = q → (0 ≤ q ∧ q ≤ N) → (q < N → C q ≠ 32) → m 19 0 3 = -1 →
    (∀ m', FrS m m' → PWf (Vw m' 1) t → m' 19 0 3 = -1 → RefL Γ d2 C N m q (fun mm' _ => PRel (Vw m' 1) (mm' 26 0)) 1 → post (some (vi (-1))) m' n) →
    (∀ m' w, FrS m m' → m' 19 0 3 = w → (0 ≤ w ∧ w ≤ N) → RefL Γ d2 C N m q (fun _ r' => r' = w) 0 → post (some (vi w)) m' n) → AM Γ (d + 5) 47 16 [some (vr 19 0), some (vr 3 1), some (vi (x - c0))] [] m n post := by
    intro x x0 x1 ih m q hT hW h3 hp q0 qs hw K1 K0
    have hN := hT.1
    have hl := hT.2.1
    have hC : ∀ i, 0 ≤ i → i < N → 0 ≤ C i ∧ C i ≤ 255 := fun i i0 i1 => (hT.2.2 i i0 i1).2
    refine b47_16 (by omega) (fun z => absurd z (by omega)) (fun _ => b47_22 (by omega) (by omega) (fun z => b47_51 ?_) (fun z => b47_33 (c_hasFailed (by rw [hw]; exact ir (by omega) (by omega)) (fun y => absurd hw y) (fun _ => b47_37 (by omega) (fun y => absurd rfl y) (fun _ => b47_40 ?_)))))
    · -- the end of the text
      rw [hw]
      refine K1 m FrS.refl hW hw ?_
      intro mm r nn post2 t1 hP hr r0 sk K
      refine b124_34 (by omega) (fun y => absurd y (by omega)) (fun _ => b124_38 (r_here hN hC t1 hr r0 sk (fun m1 f1 g1 _ => ?_)))
      rw [if_neg (by omega)]
      exact b124_42 (by omega) (fun _ => K m1 q f1.m g1 (by dsimp only; rw [f1.1 26 (by omega)]; exact hP)) (fun y => absurd y (by omega))
    · have qn : q < N := by omega
      -- the reference up to the story
      have front : ∀ (R : MI → Int → Prop) (b : Int), RefT Γ d2 C N m q R b → ∀ (mm : MI) (r : Int) (nn : ML) (post2 : PO), TxR C N mm → PRel (Vw m 1) (mm 26 0) → mm 25 0 6 = r → 0 ≤ r → SkR C N r q → (∀ mm' r', FrM mm mm' → mm' 25 0 6 = r' → R mm' r' → AM Γ (d2 + 4) 124 34 [some (vr 25 0), some (vi b), none] [] mm' nn post2) → AM Γ (d2 + 4) 124 34 [some (vr 25 0), some (vi 1), none] [] mm nn post2 := by
        intro R b hR mm r nn post2 t1 hP hr r0 sk K
        have cq := hC q q0.1 qn
        refine b124_34 (by omega) (fun y => absurd y (by omega)) (fun _ => b124_38 (r_here hN hC t1 hr r0 sk (fun m1 f1 g1 _ => ?_)))
        rw [if_pos qn]
        refine b124_42 (by omega) (fun y => absurd y (by omega)) (fun _ => b124_45 (hR m1 q nn _ (f1.tx t1) (by rw [f1.1 26 (by omega)]; exact hP) g1 q0.1 ⟨Int.le_refl _, by omega, fun j j1 j2 => by omega, fun _ => qs qn⟩ (fun mm' r' f g h => b124_49 (K mm' r' (f1.m.trans f) g h))))
      refine c_readStory (d2 := d2) hT hW hp ⟨q0.1, qn⟩ (qs qn) hw (fun m' q' f W' lt g3 g2 qb' qs' w' R => b47_45 ?_) (fun m' w f w' wb pb R => b47_45 ?_)
      · -- a story
        rw [h3] at lt g3
        rw [show x - c0 + 1 = x + 1 - c0 by omega]
        have step : ∀ (R2 : MI → Int → Prop) (b : Int), RefL Γ d2 C N m' q' R2 b → RefL Γ d2 C N m q R2 b := by
          intro R2 b hR2 mm r nn post2 t1 hP hr r0 sk K
          exact front _ _ R mm r nn post2 t1 hP hr r0 sk (fun mm' r' fa ga ha => hR2 mm' r' nn post2 (fa.tx t1) ha.1 ga ha.2.1 ha.2.2 (fun mb r2 fb gb hb => K mb r2 (fa.trans fb) gb hb))
        exact ih lt m' q' (f.tx hT) W' g3 g2 qb' qs' w' (fun m2 f2 W2 w2 R2 => K1 m2 (f.trans f2) W2 w2 (step _ _ R2)) (fun m2 w2 f2 g wb R2 => K0 m2 w2 (f.trans f2) g wb (step _ _ R2))
      · -- an error
        have wl := (f.tx hT).2.1
        have wir : InR (m' 19 0 3) := by rw [w']; exact ir (by omega) (by omega)
        have fin : AM Γ (d + 5) 47 51 [some (vr 19 0), some (vr 3 1), some (vi (x - c0 + 1))] [] m' n post := by
          refine b47_51 ?_
          rw [w']
          refine K0 m' w f w' wb ?_
          intro mm r nn post2 t1 hP hr r0 sk K
          exact front _ _ R mm r nn post2 t1 hP hr r0 sk (fun mm' r' fa ga ha => b124_34 (by omega) (fun _ => K mm' r' fa ga ha) (fun y => absurd rfl y))
        exact b47_16 (by omega) (fun _ => fin) (fun _ => b47_22 (by omega) (by omega) (fun _ => fin) (fun _ => b47_33 (c_hasFailed wir (fun _ => b47_37 (by omega) (fun _ => fin) (fun y => absurd y (by omega))) (fun y => by omega))))
  have key := up_ind (P := fun x => c0 ≤ x → ∀ (m : MI) (q : Int), TxC C N m → PWf (Vw m 1) t → m 3 1 3 = x → m 19 0 2 = q → (0 ≤ q ∧ q ≤ N) → (q < N → C q ≠ 32) → m 19 0 3 = -1 →
    (∀ m', FrS m m' → PWf (Vw m' 1) t → m' 19 0 3 = -1 → RefL Γ d2 C N m q (fun mm' _ => PRel (Vw m' 1) (mm' 26 0)) 1 → post (some (vi (-1))) m' n) →
    (∀ m' w, FrS m m' → m' 19 0 3 = w → (0 ≤ w ∧ w ≤ N) → RefL Γ d2 C N m q (fun _ r' => r' = w) 0 → post (some (vi w)) m' n) → AM Γ (d + 5) 47 16 [some (vr 19 0), some (vr 3 1), some (vi (x - c0))] [] m n post) x 12 x1 ?_ ?_
  · exact key x0
  · intro _
    exact body 12 (by omega) (by omega) (fun z => absurd z (by omega))
  · intro y y0 y1 ih z
    exact body y z (by omega) (fun _ => ih (by omega))
