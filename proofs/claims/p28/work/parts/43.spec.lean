-- what an edition is: gaps, pages, numbers
theorem GapR.congr {T U : Int → Int → Prop} {K H p s r : Int} (h : ∀ c j, 0 ≤ c → c < K → 0 ≤ j → j < H → (T (p * 4 + c) j ↔ U (p * 4 + c) j)) (hr : GapR T K H p s r) : GapR U K H p s r := by
  have fw : ∀ c l, 0 ≤ c → c < K → Room T H (p * 4 + c) l s → Room U H (p * 4 + c) l s := fun c l c0 c1 w => w.congr (fun j j1 j2 => h c j c0 c1 j1 j2)
  have bw : ∀ c l, 0 ≤ c → c < K → Room U H (p * 4 + c) l s → Room T H (p * 4 + c) l s := fun c l c0 c1 w => w.congr (fun j j1 j2 => (h c j c0 c1 j1 j2).symm)
  rcases hr with ⟨e, (g | g)⟩ | ⟨e, c, l, c0, c1, e2, w, lo, co⟩
  · exact Or.inl ⟨e, Or.inl g⟩
  · exact Or.inl ⟨e, Or.inr (fun c l c0 c1 w => g c l c0 c1 (bw c l c0 c1 w))⟩
  · exact Or.inr ⟨e, c, l, c0, c1, e2, fw c l c0 c1 w, fun l' l0 l1 w' => lo l' l0 l1 (bw c l' c0 c1 w'), fun c' l' c0' c1' w' => co c' l' c0' c1' (bw c' l' c0' (by omega) w')⟩
theorem GapR.uniq {T : Int → Int → Prop} {K H p s r r' : Int} (h : GapR T K H p s r) (h' : GapR T K H p s r') : r = r' := by
  rcases h with ⟨e, g⟩ | ⟨e, c, l, c0, c1, e2, w, lo, co⟩ <;> rcases h' with ⟨e', g'⟩ | ⟨e', c', l', c0', c1', e2', w', lo', co'⟩
  · omega
  · rcases g with g | g
    · omega
    · exact absurd w' (g c' l' c0' c1')
  · rcases g' with g' | g'
    · omega
    · exact absurd w (g' c l c0 c1)
  · rcases (show c < c' ∨ c = c' ∨ c' < c by omega) with z | z | z
    · exact absurd w (co' c l c0 z)
    · subst z
      rcases (show l < l' ∨ l = l' ∨ l' < l by omega) with y | y | y
      · exact absurd w (lo' l w.1 y)
      · omega
      · exact absurd w' (lo l' w'.1 y)
    · exact absurd w' (co c' l' c0' z)
noncomputable def gapF (T : Int → Int → Prop) (K H p s : Int) : Int := @dite Int (∃ r, GapR T K H p s r) (Classical.propDecidable _) (fun h => Classical.choose h) (fun _ => -1)
theorem gapF_eq {T : Int → Int → Prop} {K H p s r : Int} (h : GapR T K H p s r) : gapF T K H p s = r := by
  unfold gapF
  rw [dif_pos ⟨r, h⟩]
  exact (Classical.choose_spec (⟨r, h⟩ : ∃ r, GapR T K H p s r)).uniq h
/-- the first page behind another, an excluded one left out, that has a gap -/
noncomputable def pgF (G : Int → Int) (ex : Int → Prop) (P h : Int) : Nat → Int → Int
  | 0, _ => -1
  | f + 1, s => @ite Int (¬ ex ((h + s) % P) ∧ G ((h + s) % P) ≠ -1) (Classical.propDecidable _) ((h + s) % P) (pgF G ex P h f (s + 1))
/-- the greatest number, up to one, that is good; else 0 -/
noncomputable def nbF (ok : Int → Prop) : Nat → Int
  | 0 => 0
  | f + 1 => @ite Int (ok ((f : Int) + 1)) (Classical.propDecidable _) ((f : Int) + 1) (nbF ok f)
theorem pgF_congr {G G' : Int → Int} {ex ex' : Int → Prop} {P h : Int} : ∀ (f : Nat) (s : Int), (∀ j, s ≤ j → j < s + f → G ((h + j) % P) = G' ((h + j) % P) ∧ (ex ((h + j) % P) ↔ ex' ((h + j) % P))) → pgF G ex P h f s = pgF G' ex' P h f s := by
  intro f
  induction f with
  | zero => intro s _; rfl
  | succ f ih =>
    intro s hh
    obtain ⟨a, b⟩ := hh s (Int.le_refl s) (by omega)
    unfold pgF
    rw [a, ih (s + 1) (fun j j1 j2 => hh j (by omega) (by omega))]
    by_cases q : ¬ ex' ((h + s) % P) ∧ G' ((h + s) % P) ≠ -1
    · rw [if_pos q, if_pos ⟨fun z => q.1 (b.1 z), q.2⟩]
    · rw [if_neg q, if_neg (fun w => q ⟨fun z => w.1 (b.2 z), w.2⟩)]
theorem pgF_bd {G : Int → Int} {ex : Int → Prop} {P h : Int} (hP : 0 < P) : ∀ (f : Nat) (s : Int), pgF G ex P h f s = -1 ∨ ((0 ≤ pgF G ex P h f s ∧ pgF G ex P h f s < P) ∧ ¬ ex (pgF G ex P h f s) ∧ G (pgF G ex P h f s) ≠ -1) := by
  intro f
  induction f with
  | zero => intro s; exact Or.inl rfl
  | succ f ih =>
    intro s
    unfold pgF
    split
    · rename_i z
      exact Or.inr ⟨⟨Int.emod_nonneg _ (by omega), Int.emod_lt_of_pos _ hP⟩, z⟩
    · exact ih (s + 1)
theorem nbF_bd {ok : Int → Prop} : ∀ f : Nat, (0 ≤ nbF ok f ∧ nbF ok f ≤ f) ∧ (0 < nbF ok f → ok (nbF ok f)) := by
  intro f
  induction f with
  | zero => exact ⟨⟨Int.le_refl 0, Int.le_refl 0⟩, fun z => absurd z (by unfold nbF; omega)⟩
  | succ f ih =>
    unfold nbF
    split
    · rename_i z
      exact ⟨⟨by omega, by omega⟩, fun _ => z⟩
    · exact ⟨⟨ih.1.1, by omega⟩, ih.2⟩
theorem nbF_congr {ok ok' : Int → Prop} : ∀ f : Nat, (∀ j : Int, 1 ≤ j → j ≤ f → (ok j ↔ ok' j)) → nbF ok f = nbF ok' f := by
  intro f
  induction f with
  | zero => intro _; rfl
  | succ f ih =>
    intro hh
    have b := hh ((f : Int) + 1) (by omega) (by omega)
    unfold nbF
    rw [ih (fun j j1 j2 => hh j j1 (by omega))]
    by_cases q : ok' ((f : Int) + 1)
    · rw [if_pos q, if_pos (b.2 q)]
    · rw [if_neg q, if_neg (fun z => q (b.1 z))]
/-- the class's taken lines are those of the spec -/
def TB (n : ML) (T : Int → Int → Prop) : Prop := ∀ c l, 0 ≤ c → c < 20 → 0 ≤ l → l < 60 → (bt (n 23 c) l ↔ T c l)
/-- the class's next piece has been put -/
def Added (m m' : MI) (e i pg gp sz fi pa : Int) : Prop := (∀ k r, ¬ (r = e ∧ (k = 11 ∨ 13 ≤ k ∧ k ≤ 18)) → m' k r = m k r) ∧ (∀ j, m' 11 e j = if j = i then m 11 e i + 1 else m 11 e j) ∧ (∀ k, 13 ≤ k → k ≤ 18 → ∀ z, z ≠ i * 3 + m 11 e i → m' k e z = m k e z) ∧ m' 13 e (i * 3 + m 11 e i) = pg ∧ m' 14 e (i * 3 + m 11 e i) = gp / 60 ∧ m' 15 e (i * 3 + m 11 e i) = gp % 60 ∧ m' 16 e (i * 3 + m 11 e i) = sz ∧ m' 17 e (i * 3 + m 11 e i) = fi ∧ m' 18 e (i * 3 + m 11 e i) = pa
theorem c_placeInFirstGap {Γ : GG} {d : Nat} {m : MI} {n : ML} {post : PO} {p e i a b P K H h : Int} {T : Int → Int → Prop} (hi : 0 ≤ i ∧ i < 12) (ha : 0 ≤ a) (hb : 0 ≤ b) (hab : a + b ≤ 8) (h6 : InR (m 6 p i)) (hl : ∀ j, 0 ≤ j → j < 8 → 0 ≤ m 7 p (i * 8 + j) ∧ m 7 p (i * 8 + j) ≤ 30 ∨ a + b ≤ j) (hc : 0 ≤ m 11 e i ∧ m 11 e i ≤ 2) (hpg : ∀ k, 0 ≤ k → k < m 11 e i → InR (m 13 e (i * 3 + k))) (hP : m 3 p 0 = P) (hh : m 5 p i = h) (p0 : 2 ≤ P ∧ P ≤ 5) (h0 : 0 ≤ h ∧ h < P) (hk : m 22 0 0 = K) (hH : m 22 0 1 = H) (k0 : 1 ≤ K ∧ K ≤ 4) (H0 : 1 ≤ H ∧ H ≤ 60) (hA : AllL n H) (hT : TB n T)
    (K0 : pgF (fun q => gapF T K H q (szP m p i a b)) (fun q => ∃ k, 0 ≤ k ∧ k < m 11 e i ∧ m 13 e (i * 3 + k) = q) P h (if a = 0 then 1 else P.toNat) 0 = -1 → post (some (vi 0)) m n)
    (K1 : ∀ q m', q = pgF (fun q => gapF T K H q (szP m p i a b)) (fun q => ∃ k, 0 ≤ k ∧ k < m 11 e i ∧ m 13 e (i * 3 + k) = q) P h (if a = 0 then 1 else P.toNat) 0 → q ≠ -1 → Added m m' e i q (gapF T K H q (szP m p i a b)) (szP m p i a b) a b → post (some (vi 1)) m' n) : CM Γ (d + 3) 22 [vr 21 0, vr 3 p, vr 10 e, vi i, vi a, vi b] m n post := by
  have hsz : 0 ≤ szP m p i a b ∧ szP m p i a b ≤ 242 := by
    unfold szP
    have := Sm_bd (f := fun j => m 7 p (i * 8 + j)) (a := a) (b := a + b) (c := 30) (by omega) (fun j j1 j2 => by
      have := hl j (by omega) (by omega)
      omega)
    (repeat' split) <;> omega
  generalize hs : szP m p i a b = s at K0 K1 hsz
  refine e22 (b22_0 (c_sizeOfPiece hi ha hb hab h6 ?_))
  rw [hs]
  have body : ∀ (N : Int), N.toNat = (if a = 0 then 1 else P.toNat) → 0 ≤ N → N ≤ 5 → AM Γ (d + 3) 22 37 [some (vr 21 0), some (vr 3 p), some (vr 10 e), some (vi i), some (vi a), some (vi b), some (vi s), some (vi N), some (vi h), some (vi 0), none] [] m n post := by
    intro N hN N0 N5
    rw [← hN] at K0 K1
    have key := up_ind (P := fun y => ∀ u, pgF (fun q => gapF T K H q s) (fun q => ∃ k, 0 ≤ k ∧ k < m 11 e i ∧ m 13 e (i * 3 + k) = q) P h N.toNat 0 = pgF (fun q => gapF T K H q s) (fun q => ∃ k, 0 ≤ k ∧ k < m 11 e i ∧ m 13 e (i * 3 + k) = q) P h (N - y).toNat y → AM Γ (d + 3) 22 37 [some (vr 21 0), some (vr 3 p), some (vr 10 e), some (vi i), some (vi a), some (vi b), some (vi s), some (vi N), some (vi ((h + y) % P)), some (vi y), u] [] m n post) 0 N N0 ?_ ?_
    · have := key none (by rw [Int.sub_zero])
      rw [Int.add_zero, Int.emod_eq_of_lt h0.1 h0.2] at this
      exact this
    · intro u e0
      rw [Int.sub_self] at e0
      refine b22_37 (by omega) (by omega) (fun _ => b22_121 (K0 ?_)) (fun z => absurd z (by omega))
      rw [e0]; rfl
    · intro y y1 y2 ih u e0
      have q0 : 0 ≤ (h + y) % P := Int.emod_nonneg _ (by omega)
      have q1 : (h + y) % P < P := Int.emod_lt_of_pos _ (by omega)
      have fz : (N - y).toNat = (N - (y + 1)).toNat + 1 := by omega
      have nx : ∀ w, (¬ (¬ (∃ k, 0 ≤ k ∧ k < m 11 e i ∧ m 13 e (i * 3 + k) = (h + y) % P) ∧ gapF T K H ((h + y) % P) s ≠ -1)) → AM Γ (d + 3) 22 94 [some (vr 21 0), some (vr 3 p), some (vr 10 e), some (vi i), some (vi a), some (vi b), some (vi s), some (vi N), some (vi ((h + y) % P)), some (vi y), some (vi w)] [] m n post := by
        intro w no
        rw [fz] at e0
        have e1 := e0
        conv at e1 => rhs; unfold pgF
        rw [if_neg no] at e1
        have st := ih (some (vi w)) e1
        have md : (h + (y + 1)) % P = if (h + y) % P + 1 < P then (h + y) % P + 1 else 0 := by
          have e : (h + (y + 1)) % P = ((h + y) % P + 1) % P := by rw [← Int.add_assoc, Int.emod_add_emod]
          rw [e]
          split
          · exact Int.emod_eq_of_lt (by omega) (by omega)
          · rw [show (h + y) % P + 1 = P by omega, Int.emod_self]
        rw [md] at st
        refine b22_94 (by omega) (by omega) (fun z => b22_112 (b22_113 ?_)) (fun z => b22_105 (b22_113 ?_))
        · rw [hP] at z; rw [if_neg z] at st; exact st
        · rw [hP] at z; rw [if_pos z] at st; exact st
      refine b22_37 (by omega) (by omega) (fun z => absurd y2 z) (fun _ => b22_44 (c_hasPieceOn hi (by omega) (ir (by omega) (by omega)) hpg (fun g => ?_) (fun g => ?_)))
      · exact b22_51 (by omega) (fun z => absurd z (by omega)) (fun _ => b22_54 (b22_69 (by omega) (fun _ => nx _ (fun w => w.1 g)) (fun z => absurd rfl z)))
      · refine b22_51 (by omega) (fun _ => b22_58 (c_firstGapOn hk hH k0 H0 (by omega) (ir (by omega) (by omega)) hA (fun r hr => ?_))) (fun z => absurd rfl z)
        have rb := hr.bd k0.2 H0.2
        have ge := gapF_eq (hr.congr (U := T) (fun c j c0 c1 j0 j1 => hT _ j (by omega) (by omega) j0 (by omega)))
        refine b22_69 (by omega) (fun z => nx _ (fun w => w.2 (by rw [ge, z]))) (fun z => b22_77 (c_addPiece hi (by omega) (by omega) (fun m' a1 a2 a3 a4 a5 a6 a7 a8 a9 => b22_92 (K1 ((h + y) % P) m' ?_ (by omega) ?_))))
        · rw [e0, fz]
          conv => rhs; unfold pgF
          rw [if_pos ⟨fun ⟨k, k1, k2, k3⟩ => g k k1 k2 k3, by rw [ge]; exact z⟩]
        · rw [ge]
          exact ⟨a1, a2, a3, a4, a5, a6, a7, a8, a9⟩
  refine b22_9 (by omega) (fun z => b22_20 (b22_24 hi ?_)) (fun z => b22_16 (b22_24 hi ?_))
  · rw [hP, hh]
    exact body P (by rw [if_neg z]) (by omega) (by omega)
  · rw [hh]
    exact body 1 (by rw [if_pos z]; rfl) (by omega) (by omega)
