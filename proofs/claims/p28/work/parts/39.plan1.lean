-- the class's plan: small steps
theorem c_fillI {Γ : GG} {d : Nat} {m : MI} {n : ML} {post : PO} {p v : Int} (K : ∀ m', (∀ k r, ¬ (k = 11 ∧ r = p) → m' k r = m k r) → (∀ i, 0 ≤ i → i < 12 → m' 11 p i = v) → post none m' n) : CM Γ d 74 [vr 11 p, vi v] m n post := by
  refine e74 (b74_0 ?_)
  have key := up_ind (P := fun y => ∀ mm : MI, (∀ k r, ¬ (k = 11 ∧ r = p) → mm k r = m k r) → (∀ i, 0 ≤ i → i < y → mm 11 p i = v) → AM Γ d 74 5 [some (vr 11 p), some (vi v), some (vi y), some (vi 12)] [] mm n post) 0 12 (by omega) ?_ ?_
  · exact key m (fun _ _ _ => rfl) (fun i i1 i2 => by omega)
  · intro mm h1 h2
    exact b74_5 (by omega) (by omega) (fun _ => b74_20 (K mm h1 h2)) (fun z => absurd z (by omega))
  · intro y y1 y2 ih mm h1 h2
    refine b74_5 (by omega) (by omega) (fun z => absurd y2 z) (fun _ => b74_10 (by omega) (ih _ (fun k r z => by rw [up_ne (fun q => z (by omega)), h1 k r z]) (fun i i1 i2 => ?_)))
    rw [up_rd]
    by_cases q : i = y
    · rw [if_pos ⟨rfl, rfl, q⟩]
    · rw [if_neg (fun u => q u.2.2), h2 i i1 (by omega)]
theorem c_beginFor {Γ : GG} {d : Nat} {m : MI} {n : ML} {post : PO} {e p : Int} (hne : p ≠ e) (K : ∀ m', (∀ k r, ¬ (r = e ∧ 10 ≤ k ∧ k ≤ 12) → m' k r = m k r) → m' 10 e 0 = m 10 p 0 + 1 → m' 10 e 1 = m 3 p 0 → m' 10 e 2 = m 3 p 1 → m' 10 e 3 = m 3 p 2 → (∀ i, 0 ≤ i → i < 12 → m' 11 e i = -1 ∧ m' 12 e i = 0) → post none m' n) : CM Γ (d + 1) 3 [vr 10 e, vr 3 p] m n post := by
  refine e3 (b3_0 (b3_15 (b3_23 (b3_31 ?_))))
  have r3 : ∀ (x y z : Int), up (up (up m 10 e 0 x) 10 e 1 y) 10 e 2 z 3 p = m 3 p := fun x y z => by rw [up_k (by omega), up_k (by omega), up_k (by omega)]
  have r2 : ∀ (x y : Int), up (up m 10 e 0 x) 10 e 1 y 3 p = m 3 p := fun x y => by rw [up_k (by omega), up_k (by omega)]
  have r1 : ∀ (x : Int), up m 10 e 0 x 3 p = m 3 p := fun x => by rw [up_k (by omega)]
  rw [r3, r2, r1]
  generalize hmB : up (up (up (up m 10 e 0 (m 10 p 0 + 1)) 10 e 1 (m 3 p 0)) 10 e 2 (m 3 p 1)) 10 e 3 (m 3 p 2) = mB
  have f1 : ∀ k r, ¬ (k = 10 ∧ r = e) → mB k r = m k r := fun k r z => by rw [← hmB, up_ne z, up_ne z, up_ne z, up_ne z]
  have g0 : mB 10 e 0 = m 10 p 0 + 1 := by rw [← hmB]; simp [up_rd]
  have g1 : mB 10 e 1 = m 3 p 0 := by rw [← hmB]; simp [up_rd]
  have g2 : mB 10 e 2 = m 3 p 1 := by rw [← hmB]; simp [up_rd]
  have g3 : mB 10 e 3 = m 3 p 2 := by rw [← hmB]; simp [up_rd]
  clear hmB r3 r2 r1
  refine c_fillI (fun m1 h1 h2 => b3_45 ?_)
  have key := up_ind (P := fun y => ∀ mm : MI, (∀ k r, ¬ (k = 12 ∧ r = e) → mm k r = m1 k r) → (∀ i, 0 ≤ i → i < y → mm 12 e i = 0) → AM Γ (d + 1) 3 47 [some (vr 10 e), some (vr 3 p), some (vi y)] [] mm n post) 0 12 (by omega) ?_ ?_
  · exact key m1 (fun _ _ _ => rfl) (fun i i1 i2 => by omega)
  · intro mm k1 k2
    refine b3_47 (by omega) (fun _ => b3_66 (K mm (fun k r z => ?_) ?_ ?_ ?_ ?_ (fun i i1 i2 => ⟨?_, k2 i i1 i2⟩))) (fun z => absurd z (by omega))
    · rw [k1 k r (fun q => z (by omega)), h1 k r (fun q => z (by omega)), f1 k r (fun q => z (by omega))]
    · rw [k1 10 e (by omega), h1 10 e (by omega), g0]
    · rw [k1 10 e (by omega), h1 10 e (by omega), g1]
    · rw [k1 10 e (by omega), h1 10 e (by omega), g2]
    · rw [k1 10 e (by omega), h1 10 e (by omega), g3]
    · rw [k1 11 e (by omega), h2 i i1 i2]
  · intro y y1 y2 ih mm k1 k2
    refine b3_47 (by omega) (fun z => absurd y2 z) (fun _ => b3_53 (by omega) (ih _ (fun k r z => by rw [up_ne (fun q => z (by omega)), k1 k r z]) (fun i i1 i2 => ?_)))
    rw [up_rd]
    by_cases q : i = y
    · rw [if_pos ⟨rfl, rfl, q⟩]
    · rw [if_neg (fun u => q u.2.2), k2 i i1 (by omega)]
theorem c_keepPieces {Γ : GG} {d : Nat} {m : MI} {n : ML} {post : PO} {e p i : Int} (hne : p ≠ e) (hi : 0 ≤ i ∧ i < 12) (K : ∀ m', (∀ k r, ¬ (r = e ∧ (k = 11 ∨ 13 ≤ k ∧ k ≤ 18)) → m' k r = m k r) → (∀ j, m' 11 e j = if j = i then m 11 p i else m 11 e j) → (∀ k, 13 ≤ k → k ≤ 18 → ∀ z, m' k e z = if i * 3 ≤ z ∧ z < i * 3 + 3 then m k p z else m k e z) → post none m' n) : CM Γ (d + 2) 4 [vr 10 e, vr 10 p, vi i] m n post := by
  refine e4 (b4_0 hi hi (c_copyPieces (by omega) (by omega) (by omega) (fun m' h1 h2 => b4_21 (K m' (fun k r z => ?_) (fun j => ?_) (fun k k1 k2 z => ?_)))))
  · rw [h1 k r (fun q => z (by omega)), up_ne (fun q => z (by omega))]
  · rw [h1 11 e (by omega), up_rd]
    by_cases q : j = i
    · rw [if_pos ⟨rfl, rfl, q⟩, if_pos q]
    · rw [if_neg (fun u => q u.2.2), if_neg q]
  · rw [h2 k k1 k2 z, up_k (by omega)]
theorem c_addPiece {Γ : GG} {d : Nat} {m : MI} {n : ML} {post : PO} {e i pg gp sz fi pa : Int} (hi : 0 ≤ i ∧ i < 12) (hc : 0 ≤ m 11 e i ∧ m 11 e i < 3) (hg : 0 ≤ gp ∧ gp < 240) (K : ∀ m', (∀ k r, ¬ (r = e ∧ (k = 11 ∨ 13 ≤ k ∧ k ≤ 18)) → m' k r = m k r) → (∀ j, m' 11 e j = if j = i then m 11 e i + 1 else m 11 e j) → (∀ k, 13 ≤ k → k ≤ 18 → ∀ z, z ≠ i * 3 + m 11 e i → m' k e z = m k e z) → m' 13 e (i * 3 + m 11 e i) = pg → m' 14 e (i * 3 + m 11 e i) = gp / 60 → m' 15 e (i * 3 + m 11 e i) = gp % 60 → m' 16 e (i * 3 + m 11 e i) = sz → m' 17 e (i * 3 + m 11 e i) = fi → m' 18 e (i * 3 + m 11 e i) = pa → post none m' n) : CM Γ d 5 [vr 10 e, vi i, vi pg, vi gp, vi sz, vi fi, vi pa] m n post := by
  refine e5 (b5_0 hi (by omega) (by omega) (by omega) (by omega) (by omega) (by omega) (by omega) (by omega) (b5_75 hi hi ?_))
  generalize hz : i * 3 + m 11 e i = z0 at K ⊢
  have e11 : up (up (up (up (up (up m 13 e z0 pg) 14 e z0 (gp / 60)) 15 e z0 (gp % 60)) 16 e z0 sz) 17 e z0 fi) 18 e z0 pa 11 e i = m 11 e i := by
    rw [up_k (by omega), up_k (by omega), up_k (by omega), up_k (by omega), up_k (by omega), up_k (by omega)]
  rw [e11]
  refine K _ (fun k r z => ?_) (fun j => ?_) (fun k k1 k2 z z1 => ?_) ?_ ?_ ?_ ?_ ?_ ?_
  · rw [up_ne (fun q => z (by omega)), up_ne (fun q => z (by omega)), up_ne (fun q => z (by omega)), up_ne (fun q => z (by omega)), up_ne (fun q => z (by omega)), up_ne (fun q => z (by omega)), up_ne (fun q => z (by omega))]
  · rw [up_rd]
    by_cases q : j = i
    · rw [if_pos ⟨rfl, rfl, q⟩, if_pos q]
    · rw [if_neg (fun u => q u.2.2), if_neg q, up_k (by omega), up_k (by omega), up_k (by omega), up_k (by omega), up_k (by omega), up_k (by omega)]
  · rw [up_k (by omega), up_rd, if_neg (fun u => z1 u.2.2), up_rd, if_neg (fun u => z1 u.2.2), up_rd, if_neg (fun u => z1 u.2.2), up_rd, if_neg (fun u => z1 u.2.2), up_rd, if_neg (fun u => z1 u.2.2), up_rd, if_neg (fun u => z1 u.2.2)]
  · simp [up_rd]
  · simp [up_rd]
  · simp [up_rd]
  · simp [up_rd]
  · simp [up_rd]
  · simp [up_rd]
theorem c_hasPieceOn {Γ : GG} {d : Nat} {m : MI} {n : ML} {post : PO} {e i pg : Int} (hi : 0 ≤ i ∧ i < 12) (hc : -1 ≤ m 11 e i ∧ m 11 e i ≤ 3) (hp : InR pg) (hb : ∀ k, 0 ≤ k → k < m 11 e i → InR (m 13 e (i * 3 + k))) (K1 : (∃ k, 0 ≤ k ∧ k < m 11 e i ∧ m 13 e (i * 3 + k) = pg) → post (some (vi 1)) m n) (K0 : (∀ k, 0 ≤ k → k < m 11 e i → m 13 e (i * 3 + k) ≠ pg) → post (some (vi 0)) m n) : CM Γ d 7 [vr 10 e, vi i, vi pg] m n post := by
  refine e7 (b7_0 ?_)
  have key := up_ind (P := fun y => (∀ k, 0 ≤ k → k < y → k < m 11 e i → m 13 e (i * 3 + k) ≠ pg) → AM Γ d 7 7 [some (vr 10 e), some (vi i), some (vi pg), some (vi (i * 3)), some (vi y)] [] m n post) 0 3 (by omega) ?_ ?_
  · exact key (fun k k1 k2 => by omega)
  · intro h
    exact b7_7 hi (by omega) (by omega) (fun _ => b7_39 (K0 (fun k k1 k2 => h k k1 (by omega) k2))) (fun z => absurd z (by omega))
  · intro y y1 y2 ih h
    refine b7_7 hi (by omega) (by omega) (fun z => b7_39 (K0 (fun k k1 k2 => h k k1 (by omega) k2))) (fun z => b7_18 (by omega) (hb y y1 z) hp (fun q => b7_33 (ih (fun k k1 k2 k3 => ?_))) (fun q => b7_31 (K1 ⟨y, y1, z, q⟩)))
    rcases (show k < y ∨ k = y by omega) with u | u
    · exact h k k1 u k3
    · rw [u]; exact q
theorem c_forgetChanges {Γ : GG} {d : Nat} {m : MI} {n : ML} {post : PO} {p : Int} (h0 : 0 ≤ m 3 p 3) (h1 : m 3 p 3 ≤ 12) (K : ∀ m', (∀ k r, ¬ (k = 9 ∧ r = p) → m' k r = m k r) → (∀ i, 0 ≤ i → i < m 3 p 3 → m' 9 p i = 0) → post none m' n) : CM Γ d 30 [vr 3 p] m n post := by
  refine e30 (b30_0 ?_)
  have key := up_ind (P := fun y => ∀ mm : MI, (∀ k r, ¬ (k = 9 ∧ r = p) → mm k r = m k r) → (∀ i, 0 ≤ i → i < y → mm 9 p i = 0) → AM Γ d 30 2 [some (vr 3 p), some (vi y)] [] mm n post) 0 (m 3 p 3) h0 ?_ ?_
  · exact key m (fun _ _ _ => rfl) (fun i i1 i2 => by omega)
  · intro mm k1 k2
    have e3 : mm 3 p = m 3 p := k1 3 p (by omega)
    have e33 : mm 3 p 3 = m 3 p 3 := by rw [e3]
    exact b30_2 (by omega) (by omega) (fun _ => b30_23 (K mm k1 k2)) (fun z => absurd z (by omega))
  · intro y y1 y2 ih mm k1 k2
    have e33 : mm 3 p 3 = m 3 p 3 := by rw [k1 3 p (by omega)]
    refine b30_2 (by omega) (by omega) (fun z => absurd y2 (by omega)) (fun _ => b30_10 (by omega) (ih _ (fun k r z => by rw [up_ne (fun q => z (by omega)), k1 k r z]) (fun i i1 i2 => ?_)))
    rw [up_rd]
    by_cases q : i = y
    · rw [if_pos ⟨rfl, rfl, q⟩]
    · rw [if_neg (fun u => q u.2.2), k2 i i1 (by omega)]
