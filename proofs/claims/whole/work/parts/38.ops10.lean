-- the pair of calls: longestGap
theorem Sim.frame {t : Int} {m m' : MI} (h1 : ∀ k p, k ≤ 20 → (k < 3 ∨ 19 ≤ k ∨ (p ≠ 8 ∧ p ≠ 1)) → m' k p = m k p) (h2 : ∀ k, 25 ≤ k → k ≤ 28 → m' k = m k) (hS : Sim t m m) : Sim t m' m' := by
  obtain ⟨⟨p1, p2⟩, ⟨s1, s2, s3, s4⟩, x1⟩ := hS
  have a1 : m' 1 0 = m 1 0 := h1 1 0 (by omega) (by omega)
  have a2 : m' 2 0 = m 2 0 := h1 2 0 (by omega) (by omega)
  have hV : ∀ p, p ≠ 8 → p ≠ 1 → VEq (Vw m' p) (Vw m p) := fun p q1 q2 k k1 k2 j _ _ => by
    show m' k p j = m k p j
    rw [h1 k p (by omega) (by omega)]
  refine ⟨⟨p1.congr (hV 0 (by omega) (by omega)) (fun j _ _ => by rw [h2 26 (by omega) (by omega)]) p2, p2.congr (hV 0 (by omega) (by omega))⟩, ⟨?_, ?_, ?_, fun i q1 q2 => ?_⟩, ?_⟩
  · rw [a1]; exact s1
  · rw [a1, h2 25 (by omega) (by omega)]; exact s2
  · unfold SvOK
    rw [a2]
    exact s3
  · rw [a1] at q2
    have hsv := s3.1 i q1 (by omega)
    obtain ⟨g1, g2⟩ := s4 i q1 q2
    rw [a2]
    exact ⟨g1.congr (hV _ (by omega) (by omega)) (fun j _ _ => by rw [h2 27 (by omega) (by omega)]) g2, g2.congr (hV _ (by omega) (by omega))⟩
  · unfold Txt at x1 ⊢
    rw [h1 19 0 (by omega) (by omega), h1 20 0 (by omega) (by omega), h2 25 (by omega) (by omega), h2 28 (by omega) (by omega)]
    exact x1
theorem pcB1 {t : Int} {m : MI} (hS : Sim t m m) : ∀ i, 0 ≤ i → i < 12 → PcB1 m 0 i := fun i h1 h2 =>
  ⟨⟨(pcok hS i h1 h2).2, (pcok hS i h1 h2).1⟩, fun k k1 k2 => by
    have := pc_bd hS h1 h2 k1 k2
    exact ⟨this.2.2.1, this.2.2.2.1, this.2.2.2.2.1⟩⟩
/-- a line with a piece -/
def OccH (V : Nat → Int → Int) (p c l : Int) : Prop := ∃ i, 0 ≤ i ∧ i < 12 ∧ HasOn V p c l i
theorem onP_has {m : MI} {e i p c l : Int} (hp : PcB1 m e i) (hc : 0 ≤ c ∧ c ≤ 3) : OnP (Vw m e) i (p * 4 + c) l ↔ HasOn (Vw m e) p c l i := by
  constructor
  · rintro ⟨k, k1, k2, k3, k4⟩
    have b := hp.2 k k1 k2
    dsimp only [Vw] at k3
    exact ⟨k, k1, k2, by show m 13 e (i * 3 + k) = p; omega, by show m 14 e (i * 3 + k) = c; omega, k4.1, k4.2⟩
  · rintro ⟨k, k1, k2, k3, k4, k5, k6⟩
    dsimp only [Vw] at k3 k4
    exact ⟨k, k1, k2, by show p * 4 + c = m 13 e (i * 3 + k) * 4 + m 14 e (i * 3 + k); omega, k5, k6⟩
theorem ownR_free {V : Nat → Int → Int} {p c l r : Int} (h : OwnR V p c l r) : r = -9 ↔ ¬ OccH V p c l := by
  rcases h with ⟨a1, a2, a3, a4⟩ | ⟨a1, a2⟩
  · exact ⟨fun z => by omega, fun z => absurd ⟨r, a1, a2, a3⟩ z⟩
  · exact ⟨fun _ ⟨i, i1, i2, i3⟩ => a2 i i1 i2 i3, fun _ => a1⟩
/-- the reference's scan: the run that ends before a line, the best so far -/
def RunR (F : Int → Prop) (l x : Int) : Prop := (0 ≤ x ∧ x ≤ l) ∧ (∀ j, l - x ≤ j → j < l → F j) ∧ (x < l → ¬ F (l - x - 1))
theorem RunR.next {F : Int → Prop} {l x : Int} (h : RunR F l x) (hf : F l) : RunR F (l + 1) (x + 1) :=
  ⟨by have := h.1; omega, fun j j1 j2 => by
    rcases (show j < l ∨ j = l by omega) with u | u
    · exact h.2.1 j (by omega) u
    · rw [u]; exact hf, fun z => by
    have := h.2.2 (by omega)
    rw [show l + 1 - (x + 1) - 1 = l - x - 1 by omega]
    exact this⟩
theorem RunR.zero {F : Int → Prop} {l : Int} (h0 : 0 ≤ l) (hf : ¬ F l) : RunR F (l + 1) 0 :=
  ⟨by omega, fun j j1 j2 => by omega, fun _ => by rw [show l + 1 - 0 - 1 = l by omega]; exact hf⟩
set_option maxHeartbeats 4000000 in
theorem r_longScan {Γ : GG} {d : Nat} {m : MI} {n : ML} {post : PO} {t p K H : Int} (hS : Sim t m m) (hk : m 26 0 162 = K) (hh : m 26 0 163 = H) (hK : 1 ≤ K ∧ K ≤ 4) (hH : 1 ≤ H ∧ H ≤ 60) (hp : InR p) (Kk : ∀ r, (0 ≤ r ∧ r ≤ H) → (0 < r → ∃ c l, 0 ≤ c ∧ c < K ∧ 0 ≤ l ∧ l + r ≤ H ∧ ∀ j, l ≤ j → j < l + r → ¬ OccH (Vw m 0) p c j) → (∀ s c l, r < s → 0 ≤ c → c < K → 0 ≤ l → l + s ≤ H → ¬ ∀ j, l ≤ j → j < l + s → ¬ OccH (Vw m 0) p c j) → post (some (vi r)) m n) : AM Γ (d + 2) 144 34 [some (vr 25 0), some (vi p), none, none, none, none] [] m n post := by
  refine b144_34 ?_
  have key := up_ind (P := fun y => ∀ b u4 u5, (0 ≤ b ∧ b ≤ H) → (0 < b → ∃ c l, 0 ≤ c ∧ c < K ∧ 0 ≤ l ∧ l + b ≤ H ∧ ∀ j, l ≤ j → j < l + b → ¬ OccH (Vw m 0) p c j) → (∀ s c l, b < s → 0 ≤ c → c < y → 0 ≤ l → l + s ≤ H → ¬ ∀ j, l ≤ j → j < l + s → ¬ OccH (Vw m 0) p c j) → AM Γ (d + 2) 144 38 [some (vr 25 0), some (vi p), some (vi b), some (vi y), u4, u5] [] m n post) 0 K (by omega) ?_ ?_
  · exact key 0 none none (by omega) (fun z => absurd z (by omega)) (fun s c l _ c0 c1 => by omega)
  · intro b u4 u5 b0 b1 b2
    exact b144_38 (by omega) (by omega) (fun _ => b144_117 (Kk b b0 b1 b2)) (fun z => absurd z (by omega))
  · intro y y1 y2 ih b u4 u5 b0 b1 b2
    refine b144_38 (by omega) (by omega) (fun z => absurd y2 (by omega)) (fun _ => b144_50 ?_)
    have inner := up_ind (P := fun l => ∀ b x, (0 ≤ b ∧ b ≤ H) → (0 < b → ∃ c l, 0 ≤ c ∧ c < K ∧ 0 ≤ l ∧ l + b ≤ H ∧ ∀ j, l ≤ j → j < l + b → ¬ OccH (Vw m 0) p c j) → (∀ s c l, b < s → 0 ≤ c → c < y → 0 ≤ l → l + s ≤ H → ¬ ∀ j, l ≤ j → j < l + s → ¬ OccH (Vw m 0) p c j) → (∀ s i, b < s → 0 ≤ i → i + s ≤ l → ¬ ∀ j, i ≤ j → j < i + s → ¬ OccH (Vw m 0) p y j) → RunR (fun j => ¬ OccH (Vw m 0) p y j) l x → AM Γ (d + 2) 144 56 [some (vr 25 0), some (vi p), some (vi b), some (vi y), some (vi x), some (vi l)] [] m n post) 0 H (by omega) ?_ ?_
    · exact inner b 0 b0 b1 b2 (fun s i z i0 i1 => by omega) ⟨by omega, fun j j1 j2 => by omega, fun z => by omega⟩
    · intro b x b0 b1 b2 b3 _
      refine b144_56 (by omega) (by omega) (fun _ => b144_111 (ih b _ _ b0 b1 (fun s c l z c0 c1 l0 l1 => ?_))) (fun z => absurd z (by omega))
      rcases (show c < y ∨ c = y by omega) with u | u
      · exact b2 s c l z c0 u l0 l1
      · rw [u]; exact b3 s l z l0 l1
    · intro l l1 l2 ihl b x b0 b1 b2 b3 hx
      -- behind the new run x'
      have tail : ∀ x', RunR (fun j => ¬ OccH (Vw m 0) p y j) (l + 1) x' → AM Γ (d + 2) 144 90 [some (vr 25 0), some (vi p), some (vi b), some (vi y), some (vi x), some (vi l)] [vi x'] m n post := by
        intro x' hx'
        have x0 := hx'.1
        -- a run of s lines that ends at l is no longer than x'
        have lim : ∀ s i, x' < s → 0 ≤ i → i + s = l + 1 → ¬ ∀ j, i ≤ j → j < i + s → ¬ OccH (Vw m 0) p y j := fun s i z i0 i1 w => hx'.2.2 (by omega) (w (l + 1 - x' - 1) (by omega) (by omega))
        refine b144_90 (by omega) (by omega) (fun z => b144_103 (b144_104 (ihl b x' b0 b1 b2 (fun s i z1 i0 i1 => ?_) hx'))) (fun z => b144_98 (b144_104 (ihl x' x' ⟨by omega, by omega⟩ (fun _ => ⟨y, l + 1 - x', y1, y2, by omega, by omega, fun j j1 j2 => hx'.2.1 j j1 (by omega)⟩) (fun s c i z1 => b2 s c i (by omega)) (fun s i z1 i0 i1 => ?_) hx')))
        · rcases (show i + s ≤ l ∨ i + s = l + 1 by omega) with u | u
          · exact b3 s i z1 i0 u
          · exact lim s i (by omega) i0 u
        · rcases (show i + s ≤ l ∨ i + s = l + 1 by omega) with u | u
          · exact b3 s i (by omega) i0 u
          · exact lim s i z1 i0 u
      have hx0 := hx.1
      refine b144_56 (by omega) (by omega) (fun z => absurd l2 (by omega)) (fun _ => b144_69 (r_owner hS hp (ir (by omega) (by omega)) (ir (by omega) (by omega)) (fun r hr => ?_)))
      have rb := hr.bd
      have rf := ownR_free hr
      refine b144_77 (by omega) (fun z => b144_89 (tail 0 (RunR.zero l1 (fun w => z (rf.2 w))))) (fun z => b144_82 (tail (x + 1) (hx.next (rf.1 z))))
set_option maxHeartbeats 4000000 in
theorem op_longestGap {Γ : GG} {d : Nat} {m : MI} {n : ML} {t a : Int} (hS : Sim t m m) (ht : t ≤ 1000) (ha : InR a) : Both Γ (d + 5) 76 144 [vr 1 0, vi a] [vr 25 0, vi a] m n t := by
  have hP := hS.1.1.1
  have hW := hS.1.2.1
  unfold HWf at hW
  dsimp only [Vw] at hP hW
  refine e76 (b76_0 (c_hasEdition (ir (by omega) (by omega)) (fun g => ?_) (fun g => ?_)))
  · have wb := hW.2.2.2.2.2 g
    obtain ⟨f1, f2, f3⟩ := hP.2.2.2.2.2 g
    refine b76_4 (by omega) (fun _ => b76_10 (c_isWithin ha i0 (ir (by omega) (by omega)) (fun p1 p2 => ?_) (fun p => ?_))) (fun z => absurd z (by omega))
    · refine b76_27 (by omega) (fun _ => b76_32 (c_longestGapOf (K := m 10 0 2) (H := m 10 0 3) rfl rfl (by omega) (by omega) (by omega) (pcB1 hS) (fun r n' hr => b76_47 ?_))) (fun z => absurd z (by omega))
      generalize hm1 : up (up m 22 0 0 (m 10 0 2)) 22 0 1 (m 10 0 3) = m1
      have f0 : ∀ k, k ≠ 22 → m1 k = m k := fun k z => by rw [← hm1, up_k z, up_k z]
      have hS1 : Sim t m1 m1 := hS.frame (fun k p k1 _ => by rw [f0 k (by omega)]) (fun k k1 k2 => f0 k (by omega))
      have rb := hr.1
      refine ⟨r, ir (by omega) (by omega), rfl, e144 (b144_0 (by rw [f0 26 (by omega)]; omega) (fun _ => b144_14 (r_in ha i0 (by rw [f0 26 (by omega)]; exact ir (by omega) (by omega)) (fun _ _ => ?_) (fun z => by rw [f0 26 (by omega)] at z; omega))) (fun z => by rw [f0 26 (by omega)] at z; omega))⟩
      refine b144_29 (by omega) (fun _ => r_longScan (K := m 10 0 2) (H := m 10 0 3) hS1 (by rw [f0 26 (by omega)]; omega) (by rw [f0 26 (by omega)]; omega) (by omega) (by omega) ha (fun r' b0 b1 b2 => ⟨?_, hS1.next⟩)) (fun z => absurd z (by omega))
      have hV : ∀ c l, OccH (Vw m1 0) a c l ↔ OccH (Vw m 0) a c l := fun c l => by
        unfold OccH HasOn Own
        dsimp only [Vw]
        rw [f0 11 (by omega), f0 13 (by omega), f0 14 (by omega), f0 15 (by omega), f0 16 (by omega)]
      have hO : ∀ c l, 0 ≤ c → c < m 10 0 2 → (OccP (Vw m 0) (a * 4 + c) l ↔ OccH (Vw m1 0) a c l) := fun c l c0 c1 => by
        rw [hV]
        constructor
        · rintro ⟨i, i1, i2, w⟩
          exact ⟨i, i1, i2, (onP_has (pcB1 hS i i1 i2) (by omega)).1 w⟩
        · rintro ⟨i, i1, i2, w⟩
          exact ⟨i, i1, i2, (onP_has (pcB1 hS i i1 i2) (by omega)).2 w⟩
      have hr' : LongR (OccP (Vw m 0)) (m 10 0 2) (m 10 0 3) a r' := by
        refine ⟨b0, fun z => ?_, fun s c l z c0 c1 w => ?_⟩
        · obtain ⟨c, l, c0, c1, l0, l1, w⟩ := b1 z
          exact ⟨c, l, c0, c1, l0, l1, fun j j1 j2 o => w j j1 j2 ((hO c j c0 c1).1 o)⟩
        · exact b2 s c l z c0 c1 w.1 w.2.1 (fun j j1 j2 o => w.2.2 j j1 j2 ((hO c j c0 c1).2 o))
      rw [hr.uniq hr']
    · refine b76_27 (by omega) (fun z => absurd rfl z) (fun _ => b76_30 ⟨-1, ir (by omega) (by omega), rfl, e144 (b144_0 (by omega) (fun _ => b144_14 (r_in ha i0 (ir (by omega) (by omega)) (fun _ _ => by omega) (fun _ => ?_))) (fun z => by omega))⟩)
      exact b144_29 (by omega) (fun z => absurd rfl z) (fun _ => b144_32 ⟨rfl, hS.next⟩)
  · exact b76_4 (by omega) (fun z => absurd rfl z) (fun _ => b76_7 ⟨-2, ir (by omega) (by omega), rfl, e144 (b144_0 (by omega) (fun z => by omega) (fun _ => b144_11 ⟨rfl, hS.next⟩))⟩)
