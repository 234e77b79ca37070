-- the turns of an edition
def oldP (V : Nat → Int → Int) (i k : Int) : Pc := (V 13 (i * 3 + k), V 14 (i * 3 + k) * 60 + V 15 (i * 3 + k), V 16 (i * 3 + k), V 17 (i * 3 + k), V 18 (i * 3 + k))
/-- the pieces of a story in the edition before -/
def oldL (V : Nat → Int → Int) (i : Int) : List Pc := (List.range (V 11 i).toNat).map (fun (k : Nat) => oldP V i (k : Int))
theorem oldL_len {V : Nat → Int → Int} {i : Int} (h : 0 ≤ V 11 i) : ((oldL V i).length : Int) = V 11 i := by
  unfold oldL
  rw [List.length_map, List.length_range]
  omega
theorem oldL_at {V : Nat → Int → Int} {i : Int} {k : Nat} {x : Pc} (h : (oldL V i)[k]? = some x) : (k : Int) < V 11 i ∧ x = oldP V i k := by
  have hk : k < (oldL V i).length := (List.getElem?_eq_some_iff.1 h).1
  have hk2 : k < (V 11 i).toNat := by
    unfold oldL at hk
    rw [List.length_map, List.length_range] at hk
    exact hk
  unfold oldL at h
  rw [List.getElem?_map, List.getElem?_range hk2] at h
  simp at h
  exact ⟨by omega, h.symm⟩
theorem oldL_mem {V : Nat → Int → Int} {i : Int} {x : Pc} (h : x ∈ oldL V i) : ∃ k : Nat, (k : Int) < V 11 i ∧ x = oldP V i k := by
  obtain ⟨k, hk⟩ := List.mem_iff_getElem?.1 h
  exact ⟨k, oldL_at hk⟩
theorem OnP_put {E : Nat → Int → Int} {i c l : Int} {L : List Pc} (h : PutG E i L) : OnP E i c l ↔ OnL L c l := by
  constructor
  · rintro ⟨k, k0, k1, k2, k3, k4⟩
    have hl : k.toNat < L.length := by
      have := h.1
      omega
    obtain ⟨x, hx⟩ : ∃ x, L[k.toNat]? = some x := ⟨L[k.toNat], List.getElem?_eq_getElem hl⟩
    obtain ⟨g1, g2, g3, g4, g5⟩ := h.2 k.toNat x hx
    have ek : ((k.toNat : Nat) : Int) = k := by omega
    rw [ek] at g1 g2 g3 g4
    exact ⟨x, List.mem_iff_getElem?.2 ⟨_, hx⟩, by rw [k2, g1, g2], by omega, by omega⟩
  · rintro ⟨x, hx, h1, h2, h3⟩
    obtain ⟨k, hk⟩ := List.mem_iff_getElem?.1 hx
    obtain ⟨g1, g2, g3, g4, g5⟩ := h.2 k x hk
    have hl : k < L.length := (List.getElem?_eq_some_iff.1 hk).1
    have e := h.1
    exact ⟨k, by omega, by omega, by rw [h1, g1, g2], by omega, by omega⟩
theorem old_put {V E : Nat → Int → Int} {i : Int} (h0 : 0 ≤ V 11 i ∧ V 11 i ≤ 3) (h11 : E 11 i = V 11 i) (hk : ∀ k, 13 ≤ k → k ≤ 18 → ∀ z, i * 3 ≤ z → z < i * 3 + 3 → E k z = V k z) (hb : ∀ k, 0 ≤ k → k < V 11 i → 0 ≤ V 15 (i * 3 + k) ∧ V 15 (i * 3 + k) < 60) : PutG E i (oldL V i) := by
  refine ⟨by rw [h11, oldL_len h0.1], fun k x hx => ?_⟩
  obtain ⟨g1, g2⟩ := oldL_at hx
  subst g2
  have b := hb k (by omega) g1
  unfold PcV oldP
  rw [hk 13 (by omega) (by omega) _ (by omega) (by omega), hk 14 (by omega) (by omega) _ (by omega) (by omega), hk 15 (by omega) (by omega) _ (by omega) (by omega), hk 16 (by omega) (by omega) _ (by omega) (by omega), hk 17 (by omega) (by omega) _ (by omega) (by omega), hk 18 (by omega) (by omega) _ (by omega) (by omega)]
  exact ⟨rfl, by dsimp only; omega, by dsimp only; omega, rfl, rfl, rfl⟩
/-- a story stays -/
def StyS (V : Nat → Int → Int) (T : Int → Int → Prop) (i : Int) : Prop := 0 < V 11 i ∧ V 9 i = 0 ∧ ∀ c l, 0 ≤ c → c < 20 → 0 ≤ l → l < 60 → OnP V i c l → ¬ T c l
theorem ed_bd {V : Nat → Int → Int} {t i k : Int} (hW : HWf V t) (he : EWf V i) (k0 : 0 ≤ k) (k1 : k < V 11 i) : 0 < V 10 0 ∧ (0 ≤ V 13 (i * 3 + k) ∧ V 13 (i * 3 + k) < V 10 1 ∧ V 10 1 ≤ 5) ∧ (0 ≤ V 14 (i * 3 + k) ∧ V 14 (i * 3 + k) < V 10 2 ∧ V 10 2 ≤ 4) ∧ (0 ≤ V 15 (i * 3 + k) ∧ 1 ≤ V 16 (i * 3 + k) ∧ V 15 (i * 3 + k) + V 16 (i * 3 + k) ≤ V 10 3 ∧ V 10 3 ≤ 60) ∧ (0 ≤ V 17 (i * 3 + k) ∧ V 17 (i * 3 + k) ≤ 8) ∧ (1 ≤ V 18 (i * 3 + k) ∧ V 18 (i * 3 + k) ≤ 8) := by
  obtain ⟨e1, e2, e3, e4, e5⟩ := he
  obtain ⟨a1, a2, a3, a4, a5, a6⟩ := e5 k k0 k1
  have hn : 0 < V 10 0 := by
    rcases (show V 10 0 = 0 ∨ 0 < V 10 0 by have := hW.2.2.2.2.1; omega) with z | z
    · have := e3 z; omega
    · exact z
  have w := hW.2.2.2.2.2 hn
  exact ⟨hn, by omega, by omega, by omega, a4, a5⟩
theorem old_gd {V : Nat → Int → Int} {T : Int → Int → Prop} {t i : Int} (hW : HWf V t) (hs : SWf V i) (he : EWf V i) (h : StyS V T i) : GdL V T (oldL V i) := by
  have h3 := he.1
  obtain ⟨q1, q2, q3⟩ := h
  have dm := hs.2.2.2.2.2.2.1 q2
  refine ⟨?_, fun x hx => ?_, ?_⟩
  · have := oldL_len (V := V) (i := i) (by omega)
    omega
  · obtain ⟨k, k1, rfl⟩ := oldL_mem hx
    obtain ⟨b0, b1, b2, b3, b4, b5⟩ := ed_bd hW he (k := k) (by omega) k1
    have d1 : (V 14 (i * 3 + k) * 60 + V 15 (i * 3 + k)) / 60 = V 14 (i * 3 + k) := by omega
    have d2 : (V 14 (i * 3 + k) * 60 + V 15 (i * 3 + k)) % 60 = V 15 (i * 3 + k) := by omega
    unfold GdP oldP
    dsimp only
    rw [d1, d2]
    refine ⟨by omega, by omega, ⟨by omega, by omega, fun j j1 j2 => ?_⟩, by omega, b4, b5⟩
    exact q3 _ j (by omega) (by omega) (by omega) (by omega) ⟨k, by omega, k1, rfl, j1, j2⟩
  · unfold oldL
    rw [List.pairwise_map, List.pairwise_iff_getElem]
    intro a b ha hb hab
    rw [List.length_range] at ha hb
    rw [List.getElem_range, List.getElem_range]
    exact (he.2.2.2.2 (b : Int) (by omega) (by omega)).2.2.2.2.2 (a : Int) (by omega) (by omega) (by omega)
/-- where a story goes, by the lines that are taken -/
noncomputable def nwL (V : Nat → Int → Int) (T : Int → Int → Prop) (i : Int) : List Pc := @ite (List Pc) (StyS V T i) (Classical.propDecidable _) (oldL V i) (placeF V T i)
theorem nw_gd {V : Nat → Int → Int} {T : Int → Int → Prop} {t i : Int} (hW : PWf V t) (hi : 0 ≤ i ∧ i < V 3 3) : GdL V T (nwL V T i) := by
  have hh := hW.1
  have hs := hW.2.1 i hi.1 hi.2
  have he := hW.2.2 i hi.1 (by have := hh.2.2.2.1; omega)
  unfold nwL
  split
  · rename_i z
    exact old_gd hh hs he z
  · exact placeF_gd hh.1 hh.2.2.1.2 hs.2.1 hs.2.2.1
abbrev ahV (V : Nat → Int → Int) (i : Int) : Int := ahN (V 4) (V 8) (V 3 3) i
/-- whose turn it is -/
noncomputable def trnS (V : Nat → Int → Int) (t : Int) : Int := @dite Int (∃ i, 0 ≤ i ∧ i < V 3 3 ∧ V 8 i ≠ 0 ∧ ahV V i = t) (Classical.propDecidable _) (fun h => Classical.choose h) (fun _ => -1)
theorem trnS_eq {V : Nat → Int → Int} {i t : Int} (h0 : 0 ≤ i) (h1 : i < V 3 3) (h8 : V 8 i ≠ 0) (ht : ahV V i = t) : trnS V t = i := by
  unfold trnS
  rw [dif_pos ⟨i, h0, h1, h8, ht⟩]
  have sp := Classical.choose_spec (⟨i, h0, h1, h8, ht⟩ : ∃ i, 0 ≤ i ∧ i < V 3 3 ∧ V 8 i ≠ 0 ∧ ahV V i = t)
  exact ah_inj (rk := V 4) ⟨sp.1, sp.2.1⟩ ⟨h0, h1⟩ sp.2.2.1 h8 (sp.2.2.2.trans ht.symm)
/-- the lines that are taken before a turn -/
noncomputable def tkF (V : Nat → Int → Int) : Nat → Int → Int → Prop
  | 0 => fun _ _ => False
  | t + 1 => fun c l => tkF V t c l ∨ OnL (nwL V (tkF V t) (trnS V t)) c l
/-- where a story goes in the edition -/
noncomputable def rsL (V : Nat → Int → Int) (i : Int) : List Pc := nwL V (tkF V (ahV V i).toNat) i
theorem tkF_next {V : Nat → Int → Int} {i : Int} {t : Nat} {c l : Int} (h0 : 0 ≤ i) (h1 : i < V 3 3) (h8 : V 8 i ≠ 0) (ht : ahV V i = t) : tkF V (t + 1) c l ↔ tkF V t c l ∨ OnL (rsL V i) c l := by
  have e : rsL V i = nwL V (tkF V t) i := by
    unfold rsL
    rw [ht, Int.toNat_natCast]
  rw [e]
  show (tkF V t c l ∨ OnL (nwL V (tkF V t) (trnS V t)) c l) ↔ _
  rw [trnS_eq h0 h1 h8 ht]
theorem rs_gd {V : Nat → Int → Int} {t i : Int} (hW : PWf V t) (hi : 0 ≤ i ∧ i < V 3 3) : GdL V (tkF V (ahV V i).toNat) (rsL V i) := nw_gd hW hi
/-- moved: printed in both, with other pieces -/
def MvdL (V : Nat → Int → Int) (i : Int) (L : List Pc) : Prop := (0 < (L.length : Int) ∧ 0 < V 11 i) ∧ ((L.length : Int) ≠ V 11 i ∨ ∃ (k : Nat) (x : Pc), L[k]? = some x ∧ (x.1 ≠ V 13 (i * 3 + k) ∨ x.2.1 / 60 ≠ V 14 (i * 3 + k) ∨ x.2.1 % 60 ≠ V 15 (i * 3 + k) ∨ x.2.2.2.1 ≠ V 17 (i * 3 + k)))
noncomputable def mvB (V : Nat → Int → Int) (i : Int) : Int := @ite Int (MvdL V i (rsL V i)) (Classical.propDecidable _) 1 0
theorem mvB_01 {V : Nat → Int → Int} {i : Int} : mvB V i = 0 ∨ mvB V i = 1 := by
  unfold mvB
  split
  · exact Or.inr rfl
  · exact Or.inl rfl
theorem moved_iff {m : MI} {e p i : Int} {L : List Pc} (h : PutG (Vw m e) i L) : MovedV m e p i ↔ MvdL (Vw m p) i L := by
  have h1 : m 11 e i = (L.length : Int) := h.1
  unfold MovedV MvdL
  dsimp only [Vw]
  rw [h1]
  constructor
  · rintro ⟨a, b | ⟨k, k0, k1, g⟩⟩
    · exact ⟨a, Or.inl b⟩
    · have hl : k.toNat < L.length := by omega
      have ek : ((k.toNat : Nat) : Int) = k := by omega
      obtain ⟨g1, g2, g3, g4, g5, g6⟩ := h.2 k.toNat L[k.toNat] (List.getElem?_eq_getElem hl)
      dsimp only [Vw] at g1 g2 g3 g5
      rw [ek] at g1 g2 g3 g5
      exact ⟨a, Or.inr ⟨k.toNat, L[k.toNat], List.getElem?_eq_getElem hl, by rw [ek, ← g1, ← g2, ← g3, ← g5]; exact g⟩⟩
  · rintro ⟨a, b | ⟨k, x, hx, g⟩⟩
    · exact ⟨a, Or.inl b⟩
    · have hl : k < L.length := (List.getElem?_eq_some_iff.1 hx).1
      obtain ⟨g1, g2, g3, g4, g5, g6⟩ := h.2 k x hx
      dsimp only [Vw] at g1 g2 g3 g5
      exact ⟨a, Or.inr ⟨k, by omega, by omega, by rw [g1, g2, g3, g5]; exact g⟩⟩
-- sums over the stories whose turn has been
theorem Sm_single {g : Int → Int} {i c : Int} (hi : 0 ≤ i ∧ i < c) : Sm (fun j => if j = i then g j else 0) 0 c = g i := by
  have z : ∀ x, 0 ≤ x → x ≤ c → Sm (fun j => if j = i then g j else 0) 0 x = if i < x then g i else 0 := by
    refine nat_ind 0 c ?_ ?_
    · rw [Sm_nil (Int.le_refl 0), if_neg (by omega)]
    · intro x x0 x1 ih
      rw [Sm_succ x0, ih]
      by_cases q : x = i
      · rw [if_pos q, if_neg (by omega), if_pos (by omega), q]; omega
      · rw [if_neg q]
        by_cases w : i < x
        · rw [if_pos w, if_pos (by omega)]; omega
        · rw [if_neg w, if_neg (by omega)]; omega
  rw [z c (by omega) (Int.le_refl c), if_pos hi.2]
def SmT (g : Int → Int) (V : Nat → Int → Int) (t : Int) : Int := Sm (fun i => if V 8 i = 0 then 0 else if ahV V i < t then g i else 0) 0 (V 3 3)
def SmA (g : Int → Int) (V : Nat → Int → Int) : Int := Sm (fun i => if V 8 i = 0 then 0 else g i) 0 (V 3 3)
theorem SmT_zero {g : Int → Int} {V : Nat → Int → Int} (h : 0 ≤ V 3 3) : SmT g V 0 = 0 := by
  unfold SmT
  have : Sm (fun i => if V 8 i = 0 then 0 else if ahV V i < 0 then g i else 0) 0 (V 3 3) = Sm (fun _ => (0 : Int)) 0 (V 3 3) := by
    refine Sm_congr (fun j j0 j1 => ?_)
    have b := (ahN_bd (rk := V 4) (al := V 8) (i := j) h).1
    split
    · rfl
    · rw [if_neg (by show ¬ ahN (V 4) (V 8) (V 3 3) j < 0; omega)]
  rw [this]
  have b := Sm_bd (f := fun _ => (0 : Int)) (a := 0) (b := V 3 3) (c := 0) h (fun j _ _ => by simp)
  omega
theorem SmT_next {g : Int → Int} {V : Nat → Int → Int} {i t : Int} (h0 : 0 ≤ i) (h1 : i < V 3 3) (h8 : V 8 i ≠ 0) (ht : ahV V i = t) : SmT g V (t + 1) = SmT g V t + g i := by
  rw [← Sm_single (g := g) ⟨h0, h1⟩]
  unfold SmT
  rw [← Sm_add (by omega)]
  refine Sm_congr (fun j j0 j1 => ?_)
  by_cases q : j = i
  · subst q
    rw [if_neg h8, if_neg h8, if_pos (by omega), if_neg (by omega), if_pos rfl]
    omega
  · rw [if_neg q]
    by_cases w : V 8 j = 0
    · rw [if_pos w, if_pos w]; rfl
    · rw [if_neg w, if_neg w]
      have ne : ahV V j ≠ t := fun z => q (ah_inj (rk := V 4) ⟨j0, j1⟩ ⟨h0, h1⟩ w h8 (z.trans ht.symm))
      by_cases u : ahV V j < t
      · rw [if_pos u, if_pos (by omega)]; omega
      · rw [if_neg u, if_neg (by omega)]; rfl
theorem SmT_top {g : Int → Int} {V : Nat → Int → Int} : SmT g V (alN (V 8) (V 3 3)) = SmA g V := by
  unfold SmT SmA
  refine Sm_congr (fun j j0 j1 => ?_)
  by_cases w : V 8 j = 0
  · rw [if_pos w, if_pos w]
  · rw [if_neg w, if_neg w, if_pos (ah_top ⟨j0, j1⟩ w)]
