-- the order of the stories: one story for each turn
theorem Sm_add {f g : Int → Int} {a b : Int} (h : a ≤ b) : Sm (fun j => f j + g j) a b = Sm f a b + Sm g a b := by
  have : ∀ x, a ≤ x → x ≤ b → Sm (fun j => f j + g j) a x = Sm f a x + Sm g a x := by
    refine nat_ind a b ?_ ?_
    · rw [Sm_nil (Int.le_refl a), Sm_nil (Int.le_refl a), Sm_nil (Int.le_refl a)]; rfl
    · intro x h1 h2 ih
      rw [Sm_succ h1, Sm_succ h1, Sm_succ h1, ih]
      omega
  exact this b h (Int.le_refl b)
theorem Sm_le {f g : Int → Int} {a b : Int} (h : a ≤ b) (hfg : ∀ j, a ≤ j → j < b → f j ≤ g j) : Sm f a b ≤ Sm g a b := by
  have : ∀ x, a ≤ x → x ≤ b → Sm f a x ≤ Sm g a x := by
    refine nat_ind a b ?_ ?_
    · rw [Sm_nil (Int.le_refl a), Sm_nil (Int.le_refl a)]; exact Int.le_refl 0
    · intro x h1 h2 ih
      rw [Sm_succ h1, Sm_succ h1]
      have := hfg x h1 h2
      omega
  exact this b h (Int.le_refl b)
theorem Sm_lt {f g : Int → Int} {a b z : Int} (hfg : ∀ j, a ≤ j → j < b → f j ≤ g j) (hz : a ≤ z ∧ z < b) (hs : f z < g z) : Sm f a b < Sm g a b := by
  have : ∀ x, z + 1 ≤ x → x ≤ b → Sm f a x < Sm g a x := by
    refine nat_ind (z + 1) b ?_ ?_
    · rw [Sm_succ hz.1, Sm_succ hz.1]
      have := Sm_le hz.1 (fun j j1 j2 => hfg j j1 (by omega))
      omega
    · intro x h1 h2 ih
      rw [Sm_succ (by omega), Sm_succ (by omega)]
      have := hfg x (by omega) h2
      omega
  exact this b (by omega) (Int.le_refl b)
theorem Sm_one {f : Int → Int} {b : Int} (h : 0 ≤ b) (h01 : ∀ j, 0 ≤ j → j < b → f j = 0 ∨ f j = 1) (hu : ∀ i j, 0 ≤ i → i < b → 0 ≤ j → j < b → f i = 1 → f j = 1 → i = j) : Sm f 0 b ≤ 1 := by
  have : ∀ x, 0 ≤ x → x ≤ b → (Sm f 0 x ≤ 1 ∧ (Sm f 0 x = 1 → ∃ i, 0 ≤ i ∧ i < x ∧ f i = 1)) ∧ 0 ≤ Sm f 0 x := by
    refine nat_ind 0 b ?_ ?_
    · rw [Sm_nil (Int.le_refl 0)]
      exact ⟨⟨by omega, fun z => by omega⟩, by omega⟩
    · intro x h1 h2 ih
      rw [Sm_succ h1]
      rcases h01 x h1 h2 with e | e
      · rw [e, Int.add_zero]
        exact ⟨⟨ih.1.1, fun z => by obtain ⟨i, i1, i2, i3⟩ := ih.1.2 z; exact ⟨i, i1, by omega, i3⟩⟩, ih.2⟩
      · have z0 : Sm f 0 x = 0 := by
          have b1 := ih.1.1
          have b0 := ih.2
          rcases (show Sm f 0 x = 0 ∨ Sm f 0 x = 1 by omega) with z | z
          · exact z
          · obtain ⟨i, i1, i2, i3⟩ := ih.1.2 z
            have := hu i x i1 (by omega) h1 h2 i3 e
            omega
        rw [z0, e]
        exact ⟨⟨by omega, fun _ => ⟨x, h1, by omega, e⟩⟩, by omega⟩
  exact (this b h (Int.le_refl b)).1.1
theorem ahd_tot {rk : Int → Int} {a b : Int} (h : a ≠ b) : ahd rk a b ∨ ahd rk b a := by
  unfold ahd
  omega
theorem ahd_irr {rk : Int → Int} {a : Int} : ¬ ahd rk a a := by
  unfold ahd
  omega
theorem ahd_tr {rk : Int → Int} {a b c : Int} (h : ahd rk a b) (h' : ahd rk b c) : ahd rk a c := by
  unfold ahd at *
  omega
theorem ah_lt {rk al : Int → Int} {c a b : Int} (ha : 0 ≤ a ∧ a < c) (la : al a ≠ 0) (h : ahd rk a b) : ahN rk al c a < ahN rk al c b := by
  unfold ahN
  refine Sm_lt (z := a) (fun j j1 j2 => ?_) ha ?_
  · by_cases q : al j = 0
    · rw [if_pos q, if_pos q]; exact Int.le_refl 0
    · rw [if_neg q, if_neg q]
      by_cases w : ahd rk j a
      · rw [if_pos w, if_pos (ahd_tr w h)]; exact Int.le_refl 1
      · rw [if_neg w]; split <;> omega
  · rw [if_neg la, if_neg la, if_neg ahd_irr, if_pos h]
    omega
theorem ah_inj {rk al : Int → Int} {c a b : Int} (ha : 0 ≤ a ∧ a < c) (hb : 0 ≤ b ∧ b < c) (la : al a ≠ 0) (lb : al b ≠ 0) (h : ahN rk al c a = ahN rk al c b) : a = b := by
  by_cases q : a = b
  · exact q
  · rcases ahd_tot (rk := rk) q with z | z
    · have := ah_lt (c := c) ha la z; omega
    · have := ah_lt (c := c) hb lb z; omega
theorem ah_top {rk al : Int → Int} {c a : Int} (ha : 0 ≤ a ∧ a < c) (la : al a ≠ 0) : ahN rk al c a < alN al c := by
  unfold ahN alN
  refine Sm_lt (z := a) (fun j j1 j2 => ?_) ha ?_
  · by_cases q : al j = 0
    · rw [if_pos q, if_pos q]; exact Int.le_refl 0
    · rw [if_neg q, if_neg q]; split <;> omega
  · rw [if_neg la, if_neg la, if_neg ahd_irr]
    omega
/-- each turn has its story -/
theorem ah_sur {rk al : Int → Int} {c t : Int} (hc : 0 ≤ c) (t0 : 0 ≤ t) (t1 : t < alN al c) : ∃ i, 0 ≤ i ∧ i < c ∧ al i ≠ 0 ∧ ahN rk al c i = t := by
  by_cases q : ∃ i, 0 ≤ i ∧ i < c ∧ al i ≠ 0 ∧ ahN rk al c i = t
  · exact q
  · exfalso
    have key : ∀ s, 0 ≤ s → s ≤ alN al c → Sm (fun j => if al j = 0 then 0 else if ahN rk al c j < s then 1 else 0) 0 c ≤ s - (if t < s then 1 else 0) := by
      refine nat_ind 0 (alN al c) ?_ ?_
      · have : Sm (fun j => if al j = 0 then 0 else if ahN rk al c j < 0 then (1 : Int) else 0) 0 c = Sm (fun _ => (0 : Int)) 0 c := by
          refine Sm_congr (fun j j1 j2 => ?_)
          have := (ahN_bd (rk := rk) (al := al) (i := j) hc).1
          split
          · rfl
          · rw [if_neg (by omega)]
        rw [this, if_neg (by omega)]
        have b := Sm_bd (f := fun _ => (0 : Int)) (a := 0) (b := c) (c := 0) hc (fun j _ _ => by simp)
        omega
      · intro s s1 s2 ih
        have e : Sm (fun j => if al j = 0 then 0 else if ahN rk al c j < s + 1 then (1 : Int) else 0) 0 c = Sm (fun j => if al j = 0 then 0 else if ahN rk al c j < s then (1 : Int) else 0) 0 c + Sm (fun j => if al j = 0 then 0 else if ahN rk al c j = s then (1 : Int) else 0) 0 c := by
          rw [← Sm_add hc]
          refine Sm_congr (fun j j1 j2 => ?_)
          by_cases q0 : al j = 0
          · rw [if_pos q0, if_pos q0, if_pos q0]; rfl
          · rw [if_neg q0, if_neg q0, if_neg q0]
            (repeat' split) <;> omega
        rw [e]
        by_cases u : s = t
        · have z : Sm (fun j => if al j = 0 then 0 else if ahN rk al c j = s then (1 : Int) else 0) 0 c = Sm (fun _ => (0 : Int)) 0 c := by
            refine Sm_congr (fun j j1 j2 => ?_)
            by_cases q0 : al j = 0
            · rw [if_pos q0]
            · rw [if_neg q0, if_neg (fun w => q ⟨j, j1, j2, q0, by omega⟩)]
          have b := Sm_bd (f := fun _ => (0 : Int)) (a := 0) (b := c) (c := 0) hc (fun j _ _ => by simp)
          rw [z]
          rw [if_neg (by omega)] at ih
          rw [if_pos (by omega)]
          omega
        · have o := Sm_one (f := fun j => if al j = 0 then 0 else if ahN rk al c j = s then (1 : Int) else 0) (b := c) hc (fun j j1 j2 => by (repeat' split) <;> omega) (fun i j i1 i2 j1 j2 hi hj => by
            have a1 : al i ≠ 0 := fun z => by rw [if_pos z] at hi; omega
            have a2 : al j ≠ 0 := fun z => by rw [if_pos z] at hj; omega
            rw [if_neg a1] at hi
            rw [if_neg a2] at hj
            have b1 : ahN rk al c i = s := by split at hi <;> omega
            have b2 : ahN rk al c j = s := by split at hj <;> omega
            exact ah_inj (rk := rk) ⟨i1, i2⟩ ⟨j1, j2⟩ a1 a2 (by omega))
          by_cases v : t < s
          · rw [if_pos v] at ih; rw [if_pos (by omega)]; omega
          · rw [if_neg v] at ih; rw [if_neg (by omega)]; omega
    have := key (alN al c) (by omega) (Int.le_refl _)
    rw [if_pos t1] at this
    have e : Sm (fun j => if al j = 0 then 0 else if ahN rk al c j < alN al c then (1 : Int) else 0) 0 c = alN al c := by
      conv => rhs; unfold alN
      refine Sm_congr (fun j j1 j2 => ?_)
      by_cases q0 : al j = 0
      · rw [if_pos q0, if_pos q0]
      · rw [if_neg q0, if_neg q0, if_pos (ah_top ⟨j1, j2⟩ q0)]
    omega
theorem c_putInOrder {Γ : GG} {d : Nat} {m : MI} {n : ML} {post : PO} {p : Int} (h0 : 0 ≤ m 3 p 3) (h1 : m 3 p 3 ≤ 12) (hr : ∀ j, 0 ≤ j → j < m 3 p 3 → InR (m 4 p j)) (ha : ∀ j, 0 ≤ j → j < m 3 p 3 → m 8 p j = 0 ∨ m 8 p j = 1) (K : ∀ m', (∀ k, k ≠ 24 → m' k = m k) → (∀ i, 0 ≤ i → i < m 3 p 3 → m 8 p i ≠ 0 → m' 24 0 (ahN (m 4 p) (m 8 p) (m 3 p 3) i) = i) → post (some (vi (alN (m 8 p) (m 3 p 3)))) m' n) : CM Γ (d + 2) 18 [vr 21 0, vr 3 p] m n post := by
  refine e18 (b18_0 ?_)
  have key := up_ind (P := fun y => ∀ mm : MI, (∀ k, k ≠ 24 → mm k = m k) → (∀ i, 0 ≤ i → i < y → m 8 p i ≠ 0 → mm 24 0 (ahN (m 4 p) (m 8 p) (m 3 p 3) i) = i) → AM Γ (d + 2) 18 4 [some (vr 21 0), some (vr 3 p), some (vi (alN (m 8 p) y)), some (vi y)] [] mm n post) 0 (m 3 p 3) h0 ?_ ?_
  · have := key m (fun _ _ => rfl) (fun i i1 i2 => by omega)
    unfold alN at this
    rw [Sm_nil (Int.le_refl 0)] at this
    exact this
  · intro mm k1 k2
    have e3 : mm 3 p 3 = m 3 p 3 := by rw [k1 3 (by omega)]
    exact b18_4 (by omega) (by omega) (fun _ => b18_41 (K mm k1 k2)) (fun z => absurd z (by omega))
  · intro y y1 y2 ih mm k1 k2
    have e3 : mm 3 p 3 = m 3 p 3 := by rw [k1 3 (by omega)]
    have e4 : mm 4 p = m 4 p := by rw [k1 4 (by omega)]
    have e8 : mm 8 p = m 8 p := by rw [k1 8 (by omega)]
    have hy := ha y y1 y2
    have hal : alN (m 8 p) (y + 1) = alN (m 8 p) y + (if m 8 p y = 0 then 0 else 1) := by
      unfold alN
      rw [Sm_succ y1]
    refine b18_4 (by omega) (by omega) (fun z => absurd y2 (by omega)) (fun _ => b18_12 (by omega) (by rw [e8]; omega) (fun z => b18_35 ?_) (fun z => b18_21 (c_aliveAheadOf (by omega) (by omega) (by omega) (by rw [e3, e4]; exact hr) (by rw [e4]; exact hr y y1 y2) ?_)))
    · rw [e8] at z
      have := ih mm k1 (fun i i1 i2 i3 => by
        rcases (show i < y ∨ i = y by omega) with u | u
        · exact k2 i i1 u i3
        · rw [u] at i3; exact absurd z i3)
      rw [hal, if_pos z, Int.add_zero] at this
      exact this
    · rw [e8] at z
      rw [e3, e4, e8]
      have bd := ahN_bd (rk := m 4 p) (al := m 8 p) (i := y) h0
      have tp := ah_top (rk := m 4 p) (al := m 8 p) ⟨y1, y2⟩ z
      have ab := alN_bd (al := m 8 p) h0
      refine b18_30 (by omega) (b18_35 ?_)
      have := ih (up mm 24 0 (ahN (m 4 p) (m 8 p) (m 3 p 3) y) y) (fun k z => by rw [up_k z, k1 k z]) (fun i i1 i2 i3 => by
        rw [up_rd]
        rcases (show i < y ∨ i = y by omega) with u | u
        · rw [if_neg (fun w => by have := ah_inj (rk := m 4 p) ⟨i1, by omega⟩ ⟨y1, y2⟩ i3 z w.2.2; omega), k2 i i1 u i3]
        · rw [u, if_pos ⟨rfl, rfl, rfl⟩])
      rw [hal, if_neg z] at this
      exact this
