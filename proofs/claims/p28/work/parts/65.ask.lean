-- THE QUESTIONS: what they answer, by the present paper alone; nothing changes
def cntF (V : Nat → Int → Int) (tl k : Int) : Int := if k = 0 then V 3 0 else if k = 1 then V 3 1 else if k = 2 then V 3 2 else if k = 3 then V 3 3 else if k = 4 then alN (V 8) (V 3 3) else if k = 5 then V 10 0 else tl
def stoF (V : Nat → Int → Int) (i w : Int) : Int := if w = 0 then V 4 i else if w = 1 then V 5 i else if w = 2 then V 6 i else if w = 3 then Sm (fun j => V 7 (i * 8 + j)) 0 (0 + V 6 i) else if w = 4 then (if V 8 i = 0 then 0 else 1) else ahN (V 4) (V 8) (V 3 3) i
def parF (V : Nat → Int → Int) (i p : Int) : Int := if p < V 6 i then V 7 (i * 8 + p) else -9
def pcsF (V : Nat → Int → Int) (i : Int) : Int := if 0 < V 10 0 then (if V 11 i = -1 then -9 else V 11 i) else -2
def wmvF (V : Nat → Int → Int) (i : Int) : Int := if 0 < V 10 0 then (if 0 < V 11 i then (if V 12 i = 0 then 0 else 1) else -9) else -2
def pieF (V : Nat → Int → Int) (i k w : Int) : Int := if 0 < V 10 0 then (if k < V 11 i then prpV V i k w else -9) else -2
def ediF (V : Nat → Int → Int) (w : Int) : Int := if 0 < V 10 0 then (if w = 0 then prN (V 11) 12 else if w = 1 then hoN (V 11) 12 else if w = 2 then alN (V 12) 12 else if w = 3 then pcN (V 11) 12 else if w = 4 then 2 * (pcN (V 11) 12 - prN (V 11) 12) else V 10 1 * V 10 2 * V 10 3 - szN (V 11) (V 16) 12) else -2
theorem ask_cnt {V : Nat → Int → Int} {t : Int} (hW : PWf V t) : 0 ≤ V 3 3 ∧ V 3 3 ≤ 12 ∧ 0 ≤ V 10 0 ∧ V 10 0 ≤ t := ⟨hW.1.2.2.2.1.1, hW.1.2.2.2.1.2, hW.1.2.2.2.2.1.1, hW.1.2.2.2.2.1.2⟩
theorem a_count {Γ : GG} {d : Nat} {m : MI} {n : ML} {post : PO} {t a : Int} (hW : PWf (Vw m 0) t) (ha : 0 ≤ a ∧ a ≤ 6) (K : post (some (vi (cntF (Vw m 0) (m 19 0 0) a))) m n) : CM Γ (d + 5) 54 [vr 1 0, vi a] m n post := by
  obtain ⟨c0, c1, -, -⟩ := ask_cnt hW
  dsimp only [Vw] at c0 c1
  unfold cntF at K
  dsimp only [Vw] at K
  refine e54 (b54_0 (ir (by omega) (by omega)) (fun h => by omega) (fun h => ?_) (fun h => ?_) (fun h => ?_) (fun h => ?_) (fun h => ?_) (fun h => ?_) (fun h => ?_) (fun h => by omega))
  · subst h
    exact b54_48 K
  · subst h
    exact b54_56 K
  · subst h
    exact b54_64 K
  · subst h
    exact b54_72 K
  · subst h
    exact b54_80 (c_aliveCount c0 c1 (b54_87 K))
  · subst h
    exact b54_88 K
  · subst h
    exact b54_99 K
theorem a_saved {Γ : GG} {d : Nat} {m : MI} {n : ML} {post : PO} (K : post (some (vi (m 1 0 3))) m n) : CM Γ (d + 5) 54 [vr 1 0, vi 7] m n post :=
  e54 (b54_0 (ir (by omega) (by omega)) (fun h => by omega) (fun h => by omega) (fun h => by omega) (fun h => by omega) (fun h => by omega) (fun h => by omega) (fun h => by omega) (fun h => by omega) (fun _ => b54_107 K))
theorem a_story {Γ : GG} {d : Nat} {m : MI} {n : ML} {post : PO} {t a b : Int} (hW : PWf (Vw m 0) t) (ha : 0 ≤ a ∧ a < m 3 0 3) (hb : 0 ≤ b ∧ b ≤ 5) (K : post (some (vi (stoF (Vw m 0) a b))) m n) : CM Γ (d + 5) 52 [vr 1 0, vi a, vi b] m n post := by
  obtain ⟨c0, c1, -, -⟩ := ask_cnt hW
  obtain ⟨w1, w2, w3, w4, w5, w6, w7, w8⟩ := hW.2.1 a ha.1 ha.2
  dsimp only [Vw] at c0 c1 w1 w2 w3 w4 w5 w6 w7 w8
  unfold stoF at K
  dsimp only [Vw] at K
  refine e52 (b52_0 (c_isStory (ir (by omega) (by omega)) c0 c1 (fun q1 q2 => ?_) (fun q => by omega)))
  refine b52_5 (by omega) (fun _ => b52_10 (ir (by omega) (by omega)) (fun h => by omega) (fun h => ?_) (fun h => ?_) (fun h => ?_) (fun h => ?_) (fun h => ?_) (fun h => ?_)) (fun h => absurd h (by omega))
  · subst h
    exact b52_48 (by omega) K
  · subst h
    exact b52_58 (by omega) K
  · subst h
    exact b52_68 (by omega) K
  · subst h
    exact b52_78 (by omega) (c_linesOfParagraphs (by omega) (by omega) (by omega) (by omega) (b52_96 K))
  · subst h
    replace K : post (some (vi (if m 8 0 a = 0 then 0 else 1))) m n := K
    refine b52_97 (by omega) (by omega) (fun g => b52_113 (b52_114 ?_)) (fun g => b52_109 (b52_114 ?_))
    · rw [if_pos g] at K
      exact K
    · rw [if_neg g] at K
      exact K
  · subst h
    have hrk : ∀ j, 0 ≤ j → j < m 3 0 3 → InR (m 4 0 j) := fun j z1 z2 => by have := (hW.2.1 j z1 z2).1; dsimp only [Vw] at this; exact ir (by omega) (by omega)
    exact b52_115 (c_aliveAheadOf (by omega) c0 c1 hrk (hrk a q1 q2) (b52_123 K))
theorem a_paragraph {Γ : GG} {d : Nat} {m : MI} {n : ML} {post : PO} {t a b : Int} (hW : PWf (Vw m 0) t) (ha : 0 ≤ a ∧ a < m 3 0 3) (hb : 0 ≤ b ∧ b ≤ 1000) (K : post (some (vi (parF (Vw m 0) a b))) m n) : CM Γ (d + 5) 53 [vr 1 0, vi a, vi b] m n post := by
  obtain ⟨c0, c1, -, -⟩ := ask_cnt hW
  have w3 := (hW.2.1 a ha.1 ha.2).2.2.1
  dsimp only [Vw] at c0 c1 w3
  unfold parF at K
  dsimp only [Vw] at K
  refine e53 (b53_0 (c_isStory (ir (by omega) (by omega)) c0 c1 (fun q1 q2 => ?_) (fun q => by omega)))
  refine b53_5 (by omega) (fun h => absurd h (by omega)) (fun _ => b53_8 (ir (by omega) (by omega)) (fun g => ?_) (fun g => by omega))
  refine b53_14 (by omega) (by omega) (by omega) (fun g => ?_) (fun g => ?_)
  · rw [if_pos g] at K
    exact b53_30 (c_linesOf (by omega) (by omega) (b53_39 K))
  · rw [if_neg g] at K
    exact b53_27 K
theorem a_pieces {Γ : GG} {d : Nat} {m : MI} {n : ML} {post : PO} {t a : Int} (hW : PWf (Vw m 0) t) (ht : t ≤ 1000) (ha : 0 ≤ a ∧ a < m 3 0 3) (K : post (some (vi (pcsF (Vw m 0) a))) m n) : CM Γ (d + 5) 57 [vr 1 0, vi a] m n post := by
  obtain ⟨c0, c1, c2, c3⟩ := ask_cnt hW
  have e1 := (hW.2.2 a ha.1 (by dsimp only [Vw] at c1; omega)).1
  dsimp only [Vw] at c0 c1 c2 c3 e1
  unfold pcsF at K
  dsimp only [Vw] at K
  refine e57 (b57_0 (c_isStory (ir (by omega) (by omega)) c0 c1 (fun q1 q2 => ?_) (fun q => by omega)))
  refine b57_5 (by omega) (fun _ => b57_10 (c_hasEdition (ir (by omega) (by omega)) (fun g => ?_) (fun g => ?_))) (fun h => absurd h (by omega))
  · rw [if_pos g] at K
    refine b57_14 (by omega) (fun _ => b57_20 (by omega) (by omega) (fun h => b57_43 (b57_44 ?_)) (fun h => b57_38 (b57_44 ?_))) (fun h => absurd h (by omega))
    · rw [if_neg h] at K
      exact K
    · rw [if_pos h] at K
      exact K
  · rw [if_neg g] at K
    exact b57_14 (by omega) (fun h => absurd rfl h) (fun _ => b57_17 K)
theorem a_wasMoved {Γ : GG} {d : Nat} {m : MI} {n : ML} {post : PO} {t a : Int} (hW : PWf (Vw m 0) t) (ht : t ≤ 1000) (ha : 0 ≤ a ∧ a < m 3 0 3) (K : post (some (vi (wmvF (Vw m 0) a))) m n) : CM Γ (d + 5) 60 [vr 1 0, vi a] m n post := by
  obtain ⟨c0, c1, c2, c3⟩ := ask_cnt hW
  have e1 := (hW.2.2 a ha.1 (by dsimp only [Vw] at c1; omega)).1
  have e2 := (hW.2.2 a ha.1 (by dsimp only [Vw] at c1; omega)).2.1
  dsimp only [Vw] at c0 c1 c2 c3 e1 e2
  unfold wmvF at K
  dsimp only [Vw] at K
  refine e60 (b60_0 (c_isStory (ir (by omega) (by omega)) c0 c1 (fun q1 q2 => ?_) (fun q => by omega)))
  refine b60_5 (by omega) (fun _ => b60_10 (c_hasEdition (ir (by omega) (by omega)) (fun g => ?_) (fun g => ?_))) (fun h => absurd h (by omega))
  · rw [if_pos g] at K
    refine b60_14 (by omega) (fun _ => b60_20 (c_isPrinted (by omega) (ir (by omega) (by omega)) (fun f => ?_) (fun f => ?_))) (fun h => absurd h (by omega))
    · rw [if_pos f] at K
      refine b60_31 (by omega) (fun _ => b60_37 (by omega) (by omega) (fun h => b60_56 (b60_57 ?_)) (fun h => b60_52 (b60_57 ?_))) (fun h => absurd h (by omega))
      · rw [if_pos h] at K
        exact K
      · rw [if_neg h] at K
        exact K
    · rw [if_neg f] at K
      exact b60_31 (by omega) (fun h => absurd rfl h) (fun _ => b60_34 K)
  · rw [if_neg g] at K
    exact b60_14 (by omega) (fun h => absurd rfl h) (fun _ => b60_17 K)
theorem a_piece {Γ : GG} {d : Nat} {m : MI} {n : ML} {post : PO} {t a b w : Int} (hW : PWf (Vw m 0) t) (ht : t ≤ 1000) (ha : 0 ≤ a ∧ a < m 3 0 3) (hb : 0 ≤ b ∧ b ≤ 1000) (hw : 0 ≤ w ∧ w ≤ 7) (K : post (some (vi (pieF (Vw m 0) a b w))) m n) : CM Γ (d + 5) 58 [vr 1 0, vi a, vi b, vi w] m n post := by
  obtain ⟨c0, c1, c2, c3⟩ := ask_cnt hW
  have e1 := (hW.2.2 a ha.1 (by dsimp only [Vw] at c1; omega)).1
  dsimp only [Vw] at c0 c1 c2 c3 e1
  unfold pieF at K
  rw [show Vw m 0 10 0 = m 10 0 0 from rfl, show Vw m 0 11 a = m 11 0 a from rfl] at K
  refine e58 (b58_0 (c_isStory (ir (by omega) (by omega)) c0 c1 (fun q1 q2 => ?_) (fun q => by omega)))
  refine b58_5 (by omega) (fun z => absurd z (by omega)) (fun _ => b58_8 (ir (by omega) (by omega)) (fun z => by omega) (fun hb0 => b58_12 (c_isWithin (ir (by omega) (by omega)) i0 (ir (by omega) (by omega)) (fun w1 w2 => ?_) (fun z => by omega))))
  refine b58_19 (by omega) (fun _ => b58_24 (c_hasEdition (ir (by omega) (by omega)) (fun g => ?_) (fun g => ?_))) (fun z => absurd z (by omega))
  · rw [if_pos g] at K
    refine b58_28 (by omega) (fun _ => b58_34 (by omega) (ir (by omega) (by omega)) (by omega) (fun k2 => ?_) (fun k2 => ?_)) (fun z => absurd z (by omega))
    · rw [if_pos k2] at K
      exact b58_53 (c_propertyOf (by omega) (by omega) (by omega) (by omega) (b58_66 K))
    · rw [if_neg k2] at K
      exact b58_50 K
  · rw [if_neg g] at K
    exact b58_28 (by omega) (fun z => absurd rfl z) (fun _ => b58_31 K)
theorem ask_ok {m : MI} {t : Int} (hW : PWf (Vw m 0) t) : PcOK m 0 := fun i h1 h2 => (hW.2.2 i h1 h2).1
theorem a_edition {Γ : GG} {d : Nat} {m : MI} {n : ML} {post : PO} {t a : Int} (hW : PWf (Vw m 0) t) (ht : t ≤ 1000) (ha : 0 ≤ a ∧ a ≤ 5) (K : post (some (vi (ediF (Vw m 0) a))) m n) : CM Γ (d + 5) 56 [vr 1 0, vi a] m n post := by
  obtain ⟨c0, c1, c2, c3⟩ := ask_cnt hW
  have hpc := ask_ok hW
  dsimp only [Vw] at c0 c1 c2 c3
  have hA : InR a := ir (by omega) (by omega)
  unfold ediF at K
  dsimp only [Vw] at K
  refine e56 (b56_0 (c_isWithin hA i0 (ir (by omega) (by omega)) (fun q1 q2 => ?_) (fun q => by omega)))
  refine b56_6 (by omega) (fun _ => b56_11 (c_hasEdition (ir (by omega) (by omega)) (fun g => ?_) (fun g => ?_))) (fun h => absurd h (by omega))
  · rw [if_pos g] at K
    refine b56_15 (by omega) (fun _ => b56_21 hA (fun h => ?_) (fun h => ?_) (fun h => ?_) (fun h => ?_) (fun h => ?_) (fun h => ?_)) (fun h => absurd h (by omega))
    · have e5 : a = 5 := by omega
      subst e5
      exact b56_111 (c_freeLines hpc (b56_121 K))
    · subst h
      exact b56_56 (c_printedStories hpc (b56_66 K))
    · subst h
      exact b56_67 (c_heldOver hpc (b56_77 K))
    · subst h
      exact b56_78 (c_movedStories (b56_88 K))
    · subst h
      exact b56_89 (c_allPieces hpc (b56_99 K))
    · subst h
      exact b56_100 (c_jumpLines hpc (b56_110 K))
  · rw [if_neg g] at K
    exact b56_15 (by omega) (fun h => absurd rfl h) (fun _ => b56_18 K)
theorem ask_B {m : MI} {t : Int} (hW : PWf (Vw m 0) t) : PcB m 0 := fun i k h1 h2 k1 k2 => by
  have b := ed_bd hW.1 (hW.2.2 i h1 h2) k1 k2
  dsimp only [Vw] at b
  omega
theorem a_at {Γ : GG} {d : Nat} {m : MI} {n : ML} {post : PO} {t a b w : Int} (hW : PWf (Vw m 0) t) (ht : t ≤ 1000) (g : 0 < m 10 0 0) (ha : 0 ≤ a ∧ a < m 10 0 1) (hb : 0 ≤ b ∧ b < m 10 0 2) (hw : 0 ≤ w ∧ w < m 10 0 3) (K : ∀ r, OwnR (Vw m 0) a b w r → post (some (vi r)) m n) : CM Γ (d + 5) 59 [vr 1 0, vi a, vi b, vi w] m n post := by
  obtain ⟨c0, c1, c2, c3⟩ := ask_cnt hW
  have wb := hW.1.2.2.2.2.2 g
  dsimp only [Vw] at c0 c1 c2 c3 wb
  have hA : InR a := ir (by omega) (by omega)
  have hB : InR b := ir (by omega) (by omega)
  have hC : InR w := ir (by omega) (by omega)
  refine e59 (b59_0 (c_hasEdition (ir (by omega) (by omega)) (fun g => ?_) (fun g' => absurd g g')))
  refine b59_4 (by omega) (fun _ => b59_10 (c_isWithin hA i0 (ir (by omega) (by omega)) (fun p1 p2 => ?_) (fun p => by omega))) (fun z => absurd z (by omega))
  refine b59_31 (by omega) (fun z => absurd z (by omega)) (fun _ => b59_34 (c_isWithin hB i0 (ir (by omega) (by omega)) (fun p3 p4 => ?_) (fun p => by omega)))
  refine b59_46 (by omega) (fun z => absurd z (by omega)) (fun _ => b59_49 (c_isWithin hC i0 (ir (by omega) (by omega)) (fun p5 p6 => ?_) (fun p => by omega)))
  exact b59_61 (by omega) (fun _ => b59_66 (c_storyOnLine (ask_ok hW) (ask_B hW) hA hB hC (fun r hr => b59_74 (K r hr)))) (fun z => absurd z (by omega))
-- what an edition made now would be
def mvF (V : Nat → Int → Int) (f : Int → Int) (i : Int) : Int := if i < V 3 3 ∧ V 8 i ≠ 0 then f i else 0
noncomputable def nxtF (V : Nat → Int → Int) (w : Int) : Int := if w = 0 then heldN V else if w = 1 then alN (mvF V (mvB V)) 12 else frN (tkF V (alN (V 8) (V 3 3)).toNat) (V 3 0) (V 3 1) (V 3 2)
theorem ed_mv {V E : Nat → Int → Int} (h : EdC V E) : alN (E 12) 12 = alN (mvF V (mvB V)) 12 := by
  unfold alN
  refine Sm_congr (fun j j0 j1 => ?_)
  have e : E 12 j = mvF V (mvB V) j := by
    unfold mvF
    by_cases q : j < V 3 3 ∧ V 8 j ≠ 0
    · rw [if_pos q]
      exact (h.2.1 j j0 q.1 q.2).2
    · rw [if_neg q]
      exact (h.2.2 j j0 j1 q).2
  rw [e]
/-- what next leaves -/
def FrX (m m' : MI) : Prop := ∀ k r, k ≤ 20 → ¬ (r = 8 ∧ 10 ≤ k ∧ k ≤ 18) → m' k r = m k r
theorem FrX.t {m m' : MI} (h : FrX m m') : FrT m m' := ⟨fun k z => by funext r; exact h k r (by omega) (by omega), fun r z k k1 k2 i _ _ => by show m' k r i = m k r i; rw [h k r (by omega) (by omega)]⟩
theorem FrX.trans {m m1 m2 : MI} (h : FrX m m1) (g : FrX m1 m2) : FrX m m2 := fun k r k1 k2 => by rw [g k r k1 k2, h k r k1 k2]
theorem FrX.refl {m : MI} : FrX m m := fun _ _ _ _ => rfl
theorem a_next {Γ : GG} {d : Nat} {m : MI} {n : ML} {post : PO} {t a : Int} {V : Nat → Int → Int} (vK : ∀ k, 3 ≤ k → k ≤ 18 → m k 0 = V k) (hW : PWf V t) (ha : 0 ≤ a ∧ a ≤ 2) (K : ∀ m' n', FrX m m' → post (some (vi (nxtF V a))) m' n') : CM Γ (d + 7) 61 [vr 1 0, vi a] m n post := by
  have hA : InR a := ir (by omega) (by omega)
  unfold nxtF at K
  refine e61 (b61_0 (c_isWithin hA i0 (ir (by omega) (by omega)) (fun p1 p2 => ?_) (fun p => by omega)))
  refine b61_6 (by omega) (fun _ => b61_11 (c_plan (p := 0) (V := V) (by omega) vK hW (fun m1 n1 f1 ed => ?_))) (fun z => absurd z (by omega))
  have fx : FrX m m1 := fun k r k1 k2 => f1 k r (by omega) (by omega) (by omega)
  have hb : PcOK m1 8 := ed_ok (V := V) (E := Vw m1 8) hW ed
  have eh := ed_held (V := V) (E := Vw m1 8) hW ed
  rw [show Vw m1 8 11 = m1 11 8 from rfl] at eh
  have em := ed_mv (V := V) (E := Vw m1 8) ed
  rw [show Vw m1 8 12 = m1 12 8 from rfl] at em
  have ef := ed_free (V := V) (E := Vw m1 8) hW ed
  rw [show Vw m1 8 10 1 = m1 10 8 1 from rfl, show Vw m1 8 10 2 = m1 10 8 2 from rfl, show Vw m1 8 10 3 = m1 10 8 3 from rfl, show Vw m1 8 11 = m1 11 8 from rfl, show Vw m1 8 16 = m1 16 8 from rfl] at ef
  refine b61_26 hA (fun u v => b61_68 (c_freeLines hb (b61_75 ?_))) (fun u => b61_52 (c_heldOver hb (b61_59 ?_))) (fun u => b61_60 (c_movedStories (b61_67 ?_)))
  · have k := K m1 n1 fx
    rw [if_neg u, if_neg v] at k
    rw [ef]
    exact k
  · have k := K m1 n1 fx
    rw [if_pos u] at k
    rw [eh]
    exact k
  · have k := K m1 n1 fx
    rw [if_neg (by omega), if_pos u] at k
    rw [em]
    exact k
