-- gaps
/-- so many free lines from a line on -/
def Room (T : Int → Int → Prop) (H c l s : Int) : Prop := 0 ≤ l ∧ l + s ≤ H ∧ ∀ j, l ≤ j → j < l + s → ¬ T c j
/-- the first gap of a page -/
def GapR (T : Int → Int → Prop) (K H p s r : Int) : Prop := (r = -1 ∧ ((s < 1 ∨ H < s) ∨ ∀ c l, 0 ≤ c → c < K → ¬ Room T H (p * 4 + c) l s)) ∨ ((1 ≤ s ∧ s ≤ H) ∧ ∃ c l, 0 ≤ c ∧ c < K ∧ r = c * 60 + l ∧ Room T H (p * 4 + c) l s ∧ (∀ l', 0 ≤ l' → l' < l → ¬ Room T H (p * 4 + c) l' s) ∧ ∀ c' l', 0 ≤ c' → c' < c → ¬ Room T H (p * 4 + c') l' s)
def LongR (T : Int → Int → Prop) (K H p r : Int) : Prop := (0 ≤ r ∧ r ≤ H) ∧ (0 < r → ∃ c l, 0 ≤ c ∧ c < K ∧ Room T H (p * 4 + c) l r) ∧ ∀ s c l, r < s → 0 ≤ c → c < K → ¬ Room T H (p * 4 + c) l s
theorem Room.congr {T U : Int → Int → Prop} {H c l s : Int} (h : ∀ j, 0 ≤ j → j < H → (T c j ↔ U c j)) (hr : Room T H c l s) : Room U H c l s :=
  ⟨hr.1, hr.2.1, fun j j1 j2 z => hr.2.2 j j1 j2 ((h j (by have := hr.1; omega) (by have := hr.2.1; omega)).2 z)⟩
theorem LongR.congr {T U : Int → Int → Prop} {K H p r : Int} (h : ∀ c j, 0 ≤ c → c < K → 0 ≤ j → j < H → (T (p * 4 + c) j ↔ U (p * 4 + c) j)) (hr : LongR T K H p r) : LongR U K H p r := by
  refine ⟨hr.1, fun z => ?_, fun s c l z c0 c1 w => ?_⟩
  · obtain ⟨c, l, c0, c1, w⟩ := hr.2.1 z
    exact ⟨c, l, c0, c1, w.congr (fun j j1 j2 => h c j c0 c1 j1 j2)⟩
  · exact hr.2.2 s c l z c0 c1 (w.congr (fun j j1 j2 => (h c j c0 c1 j1 j2).symm))
theorem LongR.uniq {T : Int → Int → Prop} {K H p r r' : Int} (h : LongR T K H p r) (h' : LongR T K H p r') : r = r' := by
  rcases (show r < r' ∨ r = r' ∨ r' < r by omega) with z | z | z
  · obtain ⟨c, l, c0, c1, w⟩ := h'.2.1 (by have := h.1; omega)
    exact absurd w (h.2.2 r' c l z c0 c1)
  · exact z
  · obtain ⟨c, l, c0, c1, w⟩ := h.2.1 (by have := h'.1; omega)
    exact absurd w (h'.2.2 r c l z c0 c1)
theorem GapR.bd {T : Int → Int → Prop} {K H p s r : Int} (hK : K ≤ 4) (hH : H ≤ 60) (h : GapR T K H p s r) : -1 ≤ r ∧ r < 240 := by
  rcases h with ⟨h, _⟩ | ⟨h0, c, l, c0, c1, h, w, _⟩
  · omega
  · have := w.1
    have := w.2.1
    omega
theorem c_firstGapOn {Γ : GG} {d : Nat} {m : MI} {n : ML} {post : PO} {p s K H : Int} (hk : m 22 0 0 = K) (hh : m 22 0 1 = H) (hK : 1 ≤ K ∧ K ≤ 4) (hH : 1 ≤ H ∧ H ≤ 60) (hp : 0 ≤ p ∧ p ≤ 4) (hs : InR s) (hA : AllL n H) (Kk : ∀ r, GapR (fun c l => bt (n 23 c) l) K H p s r → post (some (vi r)) m n) : CM Γ (d + 2) 41 [vr 22 0, vi p, vi s] m n post := by
  refine e41 (b41_0 (c_isWithin hs i1 (ir (by omega) (by omega)) (fun q1 q2 => ?_) (fun q => ?_)))
  · rw [hh] at q2
    refine b41_9 (by omega) (fun _ => b41_14 ?_) (fun z => absurd z (by omega))
    have key := up_ind (P := fun y => ∀ u4 u5, (∀ c l, 0 ≤ c → c < y → ¬ Room (fun c l => bt (n 23 c) l) H (p * 4 + c) l s) → AM Γ (d + 2) 41 16 [some (vr 22 0), some (vi p), some (vi s), some (vi y), u4, u5] [] m n post) 0 K (by omega) ?_ ?_
    · exact key none none (fun c l c0 c1 => by omega)
    · intro u4 u5 h
      exact b41_16 (by omega) (by omega) (fun _ => b41_65 (Kk _ (Or.inl ⟨rfl, Or.inr h⟩))) (fun z => absurd z (by omega))
    · intro y y1 y2 ih u4 u5 h
      refine b41_16 (by omega) (by omega) (fun z => absurd y2 (by omega)) (fun _ => b41_24 (by omega) (c_startsOfRoom (lines := H) hA (by omega) q1 q2 (fun x hx => ?_)))
      have rm : ∀ l, 0 ≤ l → l < 64 → (bt x l ↔ Room (fun c l => bt (n 23 c) l) H (p * 4 + y) l s) := fun l l0 l1 => by
        rw [hx l l0 l1]
        constructor
        · intro a
          have := (a (l + s - 1) (by omega) (by omega)).1
          exact ⟨l0, by omega, fun j j1 j2 => (a j j1 j2).2⟩
        · intro a j j1 j2
          have := a.2.1
          exact ⟨by omega, a.2.2 j j1 j2⟩
      refine b41_39 (i32_bd _) (fun q => ?_) (fun q => ?_)
      · rw [lg_z] at q
        refine b41_59 (ih _ _ (fun c l c0 c1 w => ?_))
        rcases (show c < y ∨ c = y by omega) with u | u
        · exact h c l c0 u w
        · subst u
          have b := (rm l w.1 (by have := w.2.1; omega)).2 w
          rw [q] at b
          exact bt_zero b
      · rw [lg_z] at q
        refine b41_48 (c_ntz64 q (fun r r0 r1 r2 r3 => b41_57 (Kk _ (Or.inr ⟨⟨q1, q2⟩, y, r, y1, y2, rfl, (rm r r0 r1).1 r2, fun l l0 l1 w => r3 l l0 l1 ((rm l l0 (by omega)).2 w), h⟩))))
  · rw [hh] at q
    exact b41_9 (by omega) (fun z => absurd rfl z) (fun _ => b41_12 (Kk _ (Or.inl ⟨rfl, Or.inl (by omega)⟩)))
theorem c_longGap {Γ : GG} {d : Nat} {m : MI} {n : ML} {post : PO} {p K H : Int} (hk : m 22 0 0 = K) (hh : m 22 0 1 = H) (hK : 1 ≤ K ∧ K ≤ 4) (hH : 1 ≤ H ∧ H ≤ 60) (hp : 0 ≤ p ∧ p ≤ 4) (hA : AllL n H) (Kk : ∀ r, LongR (fun c l => bt (n 23 c) l) K H p r → post (some (vi r)) m n) : CM Γ (d + 3) 42 [vr 22 0, vi p] m n post := by
  refine e42 (b42_0 ?_)
  rw [hh]
  have big : ∀ s c l, H < s → 0 ≤ c → c < K → ¬ Room (fun c l => bt (n 23 c) l) H (p * 4 + c) l s := fun s c l z _ _ w => by
    have := w.1
    have := w.2.1
    omega
  have key := down_ind (P := fun y => (∀ s c l, y < s → 0 ≤ c → c < K → ¬ Room (fun c l => bt (n 23 c) l) H (p * 4 + c) l s) → AM Γ (d + 3) 42 5 [some (vr 22 0), some (vi p), some (vi y)] [] m n post) 0 H (by omega) ?_ ?_
  · exact key big
  · intro h
    exact b42_5 (by omega) (fun _ => b42_28 (Kk 0 ⟨⟨by omega, by omega⟩, fun z => absurd z (by omega), h⟩)) (fun z => absurd z (by omega))
  · intro y y1 y2 ih h
    refine b42_5 (by omega) (fun z => absurd z (by omega)) (fun _ => b42_10 (c_firstGapOn hk hh hK hH hp (ir (by omega) (by omega)) hA (fun r hr => ?_)))
    have rb := hr.bd hK.2 hH.2
    refine b42_16 (by omega) (fun z => b42_22 (ih (fun s c l z1 c0 c1 w => ?_))) (fun z => b42_20 (Kk y ⟨⟨by omega, y2⟩, fun _ => ?_, h⟩))
    · rcases (show y < s ∨ s = y by omega) with u | u
      · exact h s c l u c0 c1 w
      · subst u
        rcases hr with ⟨_, (g | g)⟩ | ⟨_, c', l', c0', _, e, w', _⟩
        · omega
        · exact g c l c0 c1 w
        · have := w'.1; omega
    · rcases hr with ⟨g, _⟩ | ⟨_, c', l', c0', c1', e, w', _⟩
      · exact absurd g z
      · exact ⟨c', l', c0', c1', w'⟩
/-- all pieces of an edition -/
def OccP (V : Nat → Int → Int) (c l : Int) : Prop := ∃ i, 0 ≤ i ∧ i < 12 ∧ OnP V i c l
theorem c_longestGapOf {Γ : GG} {d : Nat} {m : MI} {n : ML} {post : PO} {e p K H : Int} (hk : m 10 e 2 = K) (hh : m 10 e 3 = H) (hK : 1 ≤ K ∧ K ≤ 4) (hH : 1 ≤ H ∧ H ≤ 60) (hp : 0 ≤ p ∧ p ≤ 4) (hB : ∀ i, 0 ≤ i → i < 12 → PcB1 m e i) (Kk : ∀ r n', LongR (OccP (Vw m e)) K H p r → post (some (vi r)) (up (up m 22 0 0 K) 22 0 1 H) n') : CM Γ (d + 4) 18 [vr 21 0, vr 10 e, vi p] m n post := by
  refine e18 (b18_0 (c_makeBlank (by omega) (fun n1 a1 a2 => b18_15 ?_)))
  rw [hk, hh]
  generalize hm1 : up (up m 22 0 0 K) 22 0 1 H = m1 at Kk ⊢
  have f0 : ∀ k, k ≠ 22 → m1 k = m k := fun k z => by rw [← hm1, up_k z, up_k z]
  have f1 : m1 22 0 0 = K := by rw [← hm1]; simp [up_rd]
  have f2 : m1 22 0 1 = H := by rw [← hm1]; simp [up_rd]
  rw [hh] at a1
  have key := up_ind (P := fun y => ∀ nn : ML, AllL nn H → (∀ c l, 0 ≤ c → c < 20 → 0 ≤ l → l < 64 → (bt (nn 23 c) l ↔ ∃ i, 0 ≤ i ∧ i < y ∧ OnP (Vw m e) i c l)) → AM Γ (d + 4) 18 17 [some (vr 21 0), some (vr 10 e), some (vi p), some (vi y)] [] m1 nn post) 0 12 (by omega) ?_ ?_
  · refine key n1 a1 (fun c l c0 c1 l0 l1 => ?_)
    rw [a2 c c0 c1]
    exact ⟨fun z => absurd z bt_zero, fun ⟨i, i1, i2, _⟩ => by omega⟩
  · intro nn h1 h2
    refine b18_17 (by omega) (fun _ => b18_38 (c_longGap f1 f2 hK hH hp h1 (fun r hr => b18_46 (Kk r nn ?_)))) (fun z => absurd z (by omega))
    exact hr.congr (fun c j c0 c1 j0 j1 => h2 (p * 4 + c) j (by omega) (by omega) j0 (by omega))
  · intro y y1 y2 ih nn h1 h2
    have e11 : ∀ k, k ≠ 22 → m1 k e = m k e := fun k z => by rw [f0 k z]
    refine b18_17 (by omega) (fun z => absurd y2 z) (fun _ => b18_23 (c_takeLinesOf ⟨y1, y2⟩ ?_ (fun n' g1 g2 => b18_32 (ih n' ?_ (fun c l c0 c1 l0 l1 => ?_)))))
    · have := hB y y1 y2
      unfold PcB1 at this ⊢
      rw [f0 11 (by omega), f0 13 (by omega), f0 14 (by omega), f0 15 (by omega), f0 16 (by omega)]
      exact this
    · unfold AllL
      rw [g1]
      exact h1
    · rw [g2 c l c0 c1 l0 l1, h2 c l c0 c1 l0 l1]
      have ev : OnP (Vw m1 e) y c l ↔ OnP (Vw m e) y c l := by
        unfold OnP
        dsimp only [Vw]
        rw [e11 11 (by omega), e11 13 (by omega), e11 14 (by omega), e11 15 (by omega), e11 16 (by omega)]
      rw [ev]
      constructor
      · rintro (⟨i, i1, i2, w⟩ | w)
        · exact ⟨i, i1, by omega, w⟩
        · exact ⟨y, y1, by omega, w⟩
      · rintro ⟨i, i1, i2, w⟩
        rcases (show i < y ∨ i = y by omega) with u | u
        · exact Or.inl ⟨i, i1, u, w⟩
        · subst u; exact Or.inr w
