-- READS OF THE LATEST EDITION
theorem Sm_tail {f : Int → Int} {a b c : Int} (h1 : a ≤ b) (h2 : b ≤ c) (h : ∀ j, b ≤ j → j < c → f j = 0) : Sm f a c = Sm f a b := by
  refine nat_ind (P := fun x => Sm f a x = Sm f a b) b c rfl (fun x g1 g2 ih => ?_) c h2 (Int.le_refl c)
  rw [Sm_succ (by omega), ih, h x g1 g2]
  omega
/-- a loop that adds over the twelve stories -/
theorem c_isPrinted {Γ : GG} {d : Nat} {m : MI} {n : ML} {post : PO} {e i : Int} (hi : 0 ≤ i ∧ i < 12) (hb : InR (m 11 e i)) (K1 : 0 < m 11 e i → post (some (vi 1)) m n) (K0 : ¬ 0 < m 11 e i → post (some (vi 0)) m n) : CM Γ d 6 [vr 10 e, vi i] m n post := by
  refine e6 (b6_0 hi hb (fun h => b6_13 (b6_14 (Or.inl rfl) (K0 h))) (fun h => b6_9 (b6_14 (Or.inr rfl) (K1 h))))
abbrev PcOK (m : MI) (e : Int) : Prop := ∀ i, 0 ≤ i → i < 12 → -1 ≤ m 11 e i ∧ m 11 e i ≤ 3
def prN (f : Int → Int) (c : Int) : Int := Sm (fun i => if 0 < f i then 1 else 0) 0 c
def hoN (f : Int → Int) (c : Int) : Int := Sm (fun i => if f i = 0 then 1 else 0) 0 c
def pcN (f : Int → Int) (c : Int) : Int := Sm (fun i => if 0 < f i then f i else 0) 0 c
def szN (f sz : Int → Int) (c : Int) : Int := Sm (fun i => Sm (fun k => sz (i * 3 + k)) 0 (f i)) 0 c
theorem c_printedStories {Γ : GG} {d : Nat} {m : MI} {n : ML} {post : PO} {e : Int} (hb : PcOK m e) (K : post (some (vi (prN (m 11 e) 12))) m n) : CM Γ (d + 1) 9 [vr 10 e] m n post := by
  refine e9 (b9_0 ?_)
  have key : AM Γ (d + 1) 9 4 [some (vr 10 e), some (vi (prN (m 11 e) 0)), some (vi 0)] [] m n post := by
    refine up_ind (P := fun x => AM Γ (d + 1) 9 4 [some (vr 10 e), some (vi (prN (m 11 e) x)), some (vi x)] [] m n post) 0 12 (by omega) ?_ (fun x g1 g2 ih => ?_)
    · exact b9_4 (by omega) (fun _ => b9_27 K) (fun h => absurd h (by omega))
    · have := hb x g1 g2
      unfold prN at ih ⊢
      rw [Sm_succ g1] at ih
      refine b9_4 (by omega) (fun h => absurd g2 h) (fun _ => b9_10 (c_isPrinted ⟨g1, g2⟩ (ir (by omega) (by omega)) (fun h => ?_) (fun h => ?_)))
      · rw [if_pos h] at ih
        exact b9_15 (by omega) (fun h => absurd h (by omega)) (fun _ => b9_18 (b9_21 ih))
      · rw [if_neg h, Int.add_zero] at ih
        exact b9_15 (by omega) (fun _ => b9_21 ih) (fun h => absurd rfl h)
  unfold prN at key
  rw [Sm_nil (Int.le_refl 0)] at key
  exact key
theorem c_heldOver {Γ : GG} {d : Nat} {m : MI} {n : ML} {post : PO} {e : Int} (hb : PcOK m e) (K : post (some (vi (hoN (m 11 e) 12))) m n) : CM Γ d 10 [vr 10 e] m n post := by
  refine e10 (b10_0 ?_)
  have key : AM Γ d 10 4 [some (vr 10 e), some (vi (hoN (m 11 e) 0)), some (vi 0)] [] m n post := by
    refine up_ind (P := fun x => AM Γ d 10 4 [some (vr 10 e), some (vi (hoN (m 11 e) x)), some (vi x)] [] m n post) 0 12 (by omega) ?_ (fun x g1 g2 ih => ?_)
    · exact b10_4 (by omega) (fun _ => b10_28 K) (fun h => absurd h (by omega))
    · have := hb x g1 g2
      unfold hoN at ih ⊢
      rw [Sm_succ g1] at ih
      refine b10_4 (by omega) (fun h => absurd g2 h) (fun _ => b10_10 (by omega) (by omega) (fun h => ?_) (fun h => ?_))
      · rw [if_neg h, Int.add_zero] at ih
        exact b10_22 ih
      · rw [if_pos h] at ih
        exact b10_19 (b10_22 ih)
  unfold hoN at key
  rw [Sm_nil (Int.le_refl 0)] at key
  exact key
theorem c_movedStories {Γ : GG} {d : Nat} {m : MI} {n : ML} {post : PO} {e : Int} (K : post (some (vi (alN (m 12 e) 12))) m n) : CM Γ d 11 [vr 10 e] m n post := by
  refine e11 (AM.w0 fun _ hB _ => b11_0 ?_)
  have key : AM Γ d 11 4 [some (vr 10 e), some (vi (alN (m 12 e) 0)), some (vi 0)] [] m n post := by
    refine up_ind (P := fun x => AM Γ d 11 4 [some (vr 10 e), some (vi (alN (m 12 e) x)), some (vi x)] [] m n post) 0 12 (by omega) ?_ (fun x g1 g2 ih => ?_)
    · exact b11_4 (by omega) (fun _ => b11_28 K) (fun h => absurd h (by omega))
    · have := hB 12 e x rfl
      unfold alN at ih ⊢
      rw [Sm_succ g1] at ih
      refine b11_4 (by omega) (fun h => absurd g2 h) (fun _ => b11_10 (by omega) (by omega) (fun h => ?_) (fun h => ?_))
      · rw [if_pos h, Int.add_zero] at ih
        exact b11_22 ih
      · rw [if_neg h] at ih
        exact b11_19 (b11_22 ih)
  unfold alN at key
  rw [Sm_nil (Int.le_refl 0)] at key
  exact key
theorem c_allPieces {Γ : GG} {d : Nat} {m : MI} {n : ML} {post : PO} {e : Int} (hb : PcOK m e) (K : post (some (vi (pcN (m 11 e) 12))) m n) : CM Γ (d + 1) 12 [vr 10 e] m n post := by
  refine e12 (b12_0 ?_)
  have key : AM Γ (d + 1) 12 4 [some (vr 10 e), some (vi (pcN (m 11 e) 0)), some (vi 0)] [] m n post := by
    refine up_ind (P := fun x => AM Γ (d + 1) 12 4 [some (vr 10 e), some (vi (pcN (m 11 e) x)), some (vi x)] [] m n post) 0 12 (by omega) ?_ (fun x g1 g2 ih => ?_)
    · exact b12_4 (by omega) (fun _ => b12_29 K) (fun h => absurd h (by omega))
    · have := hb x g1 g2
      unfold pcN at ih ⊢
      rw [Sm_succ g1] at ih
      exact b12_4 (by omega) (fun h => absurd g2 h) (fun _ => b12_10 (by omega) ⟨i0, ir (by omega) (by omega)⟩ ih)
  unfold pcN at key
  rw [Sm_nil (Int.le_refl 0)] at key
  exact key
theorem c_jumpLines {Γ : GG} {d : Nat} {m : MI} {n : ML} {post : PO} {e : Int} (hb : PcOK m e) (K : post (some (vi (2 * (pcN (m 11 e) 12 - prN (m 11 e) 12)))) m n) : CM Γ (d + 2) 13 [vr 10 e] m n post :=
  e13 (b13_0 (c_allPieces hb (b13_5 (c_printedStories hb (b13_9 K)))))
theorem c_freeLines {Γ : GG} {d : Nat} {m : MI} {n : ML} {post : PO} {e : Int} (hb : PcOK m e) (K : post (some (vi (m 10 e 1 * m 10 e 2 * m 10 e 3 - szN (m 11 e) (m 16 e) 12))) m n) : CM Γ d 14 [vr 10 e] m n post := by
  refine e14 (b14_0 ?_)
  have key : ∀ o3 o4, AM Γ d 14 17 [some (vr 10 e), some (vi (m 10 e 1 * m 10 e 2 * m 10 e 3 - szN (m 11 e) (m 16 e) 0)), some (vi 0), o3, o4] [] m n post := by
    refine up_ind (P := fun x => ∀ o3 o4, AM Γ d 14 17 [some (vr 10 e), some (vi (m 10 e 1 * m 10 e 2 * m 10 e 3 - szN (m 11 e) (m 16 e) x)), some (vi x), o3, o4] [] m n post) 0 12 (by omega) ?_ (fun x g1 g2 ih o3 o4 => ?_)
    · exact fun o3 o4 => b14_17 (by omega) (fun _ => b14_65 K) (fun h => absurd h (by omega))
    · have := hb x g1 g2
      unfold szN at ih ⊢
      rw [Sm_succ g1] at ih
      refine b14_17 (by omega) (fun h => absurd g2 h) (fun _ => b14_23 ?_)
      generalize Sm (fun i => Sm (fun k => m 16 e (i * 3 + k)) 0 (m 11 e i)) 0 x = S at ih ⊢
      by_cases hz : 0 ≤ m 11 e x
      · have k2 : AM Γ d 14 30 [some (vr 10 e), some (vi (m 10 e 1 * m 10 e 2 * m 10 e 3 - S - Sm (fun k => m 16 e (x * 3 + k)) 0 0)), some (vi x), some (vi (x * 3)), some (vi 0)] [] m n post := by
          refine up_ind (P := fun k => AM Γ d 14 30 [some (vr 10 e), some (vi (m 10 e 1 * m 10 e 2 * m 10 e 3 - S - Sm (fun k => m 16 e (x * 3 + k)) 0 k)), some (vi x), some (vi (x * 3)), some (vi k)] [] m n post) 0 (m 11 e x) hz ?_ (fun k f1 f2 ik => ?_)
          · refine b14_30 (by omega) (by omega) (by omega) (fun _ => b14_59 ?_) (fun h => absurd h (by omega))
            have := ih (some (vi (x * 3))) (some (vi (m 11 e x)))
            rw [Int.sub_sub]
            exact this
          · refine b14_30 (by omega) (by omega) (by omega) (fun h => absurd f2 h) (fun _ => b14_41 (by omega) ?_)
            rw [Sm_succ f1] at ik
            rw [Int.sub_sub (m 10 e 1 * m 10 e 2 * m 10 e 3 - S)]
            exact ik
        rw [Sm_nil (Int.le_refl 0), Int.sub_zero] at k2
        exact k2
      · refine b14_30 (by omega) (by omega) (by omega) (fun _ => b14_59 ?_) (fun h => absurd h (by omega))
        have := ih (some (vi (x * 3))) (some (vi 0))
        rw [Sm_nil (by omega), Int.add_zero] at this
        exact this
  have := key none none
  unfold szN at this
  rw [Sm_nil (Int.le_refl 0), Int.sub_zero] at this
  exact this
/-- the reference's sums -/
def rsF (s : Int → Int) (w i : Int) : Int := if w = 0 then (if 0 < s (164 + 20 * i) then 1 else 0) else if w = 1 then (if s (164 + 20 * i) = 0 then 1 else 0) else if w = 2 then s (164 + 20 * i + 1) else if w = 3 then (if 0 < s (164 + 20 * i) then s (164 + 20 * i) else 0) else Sm (fun k => s (166 + 20 * i + 6 * k + 3)) 0 (s (164 + 20 * i))
