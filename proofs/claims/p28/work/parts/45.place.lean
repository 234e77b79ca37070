-- where a story's pieces go: the spec, and the class's way
abbrev Pc : Type := Int × Int × Int × Int × Int
def lnV (V : Nat → Int → Int) (i a c : Int) : Int := Sm (fun j => V 7 (i * 8 + j)) a (a + c)
noncomputable def plG (V : Nat → Int → Int) (T : Int → Int → Prop) (q s : Int) : Int := gapF T (V 3 1) (V 3 2) q s
noncomputable def plQ (V : Nat → Int → Int) (T : Int → Int → Prop) (i s ex : Int) : Int := pgF (fun q => plG V T q s) (fun q => q = ex) (V 3 0) (V 5 i) (V 3 0 - 1).toNat 1
noncomputable def pl1 (V : Nat → Int → Int) (T : Int → Int → Prop) (i a : Int) : Pc := (V 5 i, plG V T (V 5 i) (lnV V i 0 a + 1), lnV V i 0 a + 1, 0, a)
noncomputable def pl2 (V : Nat → Int → Int) (T : Int → Int → Prop) (i a b : Int) : Pc := (plQ V T i (lnV V i a b + 2) (-1), plG V T (plQ V T i (lnV V i a b + 2) (-1)) (lnV V i a b + 2), lnV V i a b + 2, a, b)
noncomputable def pl3 (V : Nat → Int → Int) (T : Int → Int → Prop) (i a ex : Int) : Pc := (plQ V T i (lnV V i a (V 6 i - a) + 1) ex, plG V T (plQ V T i (lnV V i a (V 6 i - a) + 1) ex) (lnV V i a (V 6 i - a) + 1), lnV V i a (V 6 i - a) + 1, a, V 6 i - a)
noncomputable def placeC (V : Nat → Int → Int) (T : Int → Int → Prop) (i a b : Int) : List Pc :=
  if (pl3 V T i (a + b) (pl2 V T i a b).1).1 = -1 then [] else [pl1 V T i a, pl2 V T i a b, pl3 V T i (a + b) (pl2 V T i a b).1]
noncomputable def nb2 (V : Nat → Int → Int) (T : Int → Int → Prop) (i a : Int) : Int := nbF (fun b => (pl2 V T i a b).1 ≠ -1) (V 6 i - a - 1).toNat
noncomputable def placeB (V : Nat → Int → Int) (T : Int → Int → Prop) (i a : Int) : List Pc :=
  if (pl3 V T i a (-1)).1 = -1 then (if nb2 V T i a = 0 then [] else placeC V T i a (nb2 V T i a)) else [pl1 V T i a, pl3 V T i a (-1)]
noncomputable def nb1 (V : Nat → Int → Int) (T : Int → Int → Prop) (i : Int) : Int := nbF (fun a => (pl1 V T i a).2.1 ≠ -1) (V 6 i - 1).toNat
noncomputable def placeF (V : Nat → Int → Int) (T : Int → Int → Prop) (i : Int) : List Pc :=
  if plG V T (V 5 i) (lnV V i 0 (V 6 i)) = -1 then (if nb1 V T i = 0 then [] else placeB V T i (nb1 V T i)) else [(V 5 i, plG V T (V 5 i) (lnV V i 0 (V 6 i)), lnV V i 0 (V 6 i), 0, V 6 i)]
/-- a piece lies in an edition -/
def PcAt (m : MI) (e i k : Int) (x : Pc) : Prop := m 13 e (i * 3 + k) = x.1 ∧ m 14 e (i * 3 + k) = x.2.1 / 60 ∧ m 15 e (i * 3 + k) = x.2.1 % 60 ∧ m 16 e (i * 3 + k) = x.2.2.1 ∧ m 17 e (i * 3 + k) = x.2.2.2.1 ∧ m 18 e (i * 3 + k) = x.2.2.2.2
def PutL (m : MI) (e i : Int) : List Pc → Prop
  | [] => m 11 e i = 0
  | [x] => m 11 e i = 1 ∧ PcAt m e i 0 x
  | [x, y] => m 11 e i = 2 ∧ PcAt m e i 0 x ∧ PcAt m e i 1 y
  | [x, y, z] => m 11 e i = 3 ∧ PcAt m e i 0 x ∧ PcAt m e i 1 y ∧ PcAt m e i 2 z
  | _ => False
theorem emod_ne {P h j : Int} (p0 : 2 ≤ P ∧ P ≤ 5) (h0 : 0 ≤ h ∧ h < P) (j0 : 1 ≤ j ∧ j < P) : (h + j) % P ≠ h := by
  rcases (show P = 2 ∨ P = 3 ∨ P = 4 ∨ P = 5 by omega) with rfl | rfl | rfl | rfl <;> omega
theorem szP_0 {m : MI} {p i b : Int} (hb : b ≤ m 6 p i) : szP m p i 0 b = if b = m 6 p i then lnV (Vw m p) i 0 b else lnV (Vw m p) i 0 b + 1 := by
  unfold szP lnV
  dsimp only [Vw]
  rw [if_neg (by omega)]
  split <;> split <;> omega
theorem szP_1 {m : MI} {p i a b : Int} (ha : 0 < a) (hb : a + b ≤ m 6 p i) : szP m p i a b = if a + b = m 6 p i then lnV (Vw m p) i a b + 1 else lnV (Vw m p) i a b + 2 := by
  unfold szP lnV
  dsimp only [Vw]
  rw [if_pos ha]
  split <;> split <;> omega
/-- the first piece: the home page alone -/
theorem pgN_0 {m : MI} {T : Int → Int → Prop} {e p i K H P h b : Int} (h0 : 0 ≤ h ∧ h < P) (hc : m 11 e i = 0) : pgN m T e p i 0 K H P h b = if gapF T K H h (szP m p i 0 b) = -1 then -1 else h := by
  have hm : (h + 0) % P = h := by rw [Int.add_zero, Int.emod_eq_of_lt h0.1 h0.2]
  unfold pgN
  rw [if_pos rfl]
  unfold pgF
  rw [hm]
  by_cases q : gapF T K H h (szP m p i 0 b) = -1
  · rw [if_pos q, if_neg (fun w => w.2 q)]; rfl
  · rw [if_neg q, if_pos ⟨fun ⟨k, k1, k2, _⟩ => by omega, q⟩]
/-- a further piece -/
theorem pgN_1 {m : MI} {T : Int → Int → Prop} {e p i a K H P h b ex : Int} (p0 : 2 ≤ P ∧ P ≤ 5) (h0 : 0 ≤ h ∧ h < P) (ha : 0 < a) (hx : ∃ k, 0 ≤ k ∧ k < m 11 e i ∧ m 13 e (i * 3 + k) = h) (hy : ∀ q, 0 ≤ q → q ≠ h → ((∃ k, 0 ≤ k ∧ k < m 11 e i ∧ m 13 e (i * 3 + k) = q) ↔ q = ex)) : pgN m T e p i a K H P h b = pgF (fun q => gapF T K H q (szP m p i a b)) (fun q => q = ex) P h (P - 1).toNat 1 := by
  have hm : (h + 0) % P = h := by rw [Int.add_zero, Int.emod_eq_of_lt h0.1 h0.2]
  unfold pgN
  rw [if_neg (by omega), show P.toNat = (P - 1).toNat + 1 by omega]
  conv => lhs; unfold pgF
  rw [hm, if_neg (fun w => w.1 hx)]
  refine pgF_congr _ _ (fun j j1 j2 => ⟨rfl, ?_⟩)
  exact hy _ (Int.emod_nonneg _ (by omega)) (emod_ne p0 h0 ⟨by omega, by omega⟩)
