-- the world behind the constructor is the abstract machine's
def gA0 (b q1 : Nat) (a1 : Nat → Nat) (k : Nat) (p : Int) : Nat := if k = 0 then b else if k = 1 then q1 else a1 (32 * p.toNat + k)
def GG0 (l : Launch) (D : va_G) (C : Nat → ClassId) (b q1 : Nat) (a1 : Nat → Nat) (g : Int → Int → Int) : GG := (l, D, gA0 b q1 a1, C, g)
def fE (Γ : GG) (g : Int → Int → Int) : Nat × Int → Nat × va_E := fun q => (gA Γ q.1 q.2, cnt Γ (ini g) (fun _ _ => 0) q.1 q.2)
theorem o_0 : Int32.ofInt 0 = 0 := by decide
theorem o_1 : Int32.ofInt (-1) = -1 := by decide
theorem o_2 : Int32.ofInt 2 = 2 := by decide
theorem o_3 : Int32.ofInt 3 = 3 := by decide
theorem o_30 : Int32.ofInt 30 = 30 := by decide
theorem row_z {Γ : GG} {g : Int → Int → Int} {k t : Nat} {p v : Int} {w : Int32} (hk : akind k = t) (ht : t = 1 ∨ t = 2 ∨ t = 3) (hv : ∀ i, ini g k p i = v) (hw : Int32.ofInt v = w) : fE Γ g (k, p) = ri (gC Γ) t (alen k).toNat w (gA Γ k p) := by
  unfold fE ri
  show (gA Γ k p, cnt Γ (ini g) (fun _ _ => 0) k p) = _
  rw [cnt_int hk ht]
  simp only [hv, hw]
theorem obj_z {Γ : GG} {g : Int → Int → Int} {k : Nat} {p : Int} (h7 : akind k = 7) : fE Γ g (k, p) = (gA Γ k p, .inr (cIx k, (flds k p (ini g) (fun _ _ => 0)).map (cv Γ))) := by
  unfold fE
  show (gA Γ k p, cnt Γ (ini g) (fun _ _ => 0) k p) = _
  rw [cnt_obj h7]
def labP (z : Nat) : List (Nat × Int) := [(3, z), (10, z), (18, z), (17, z), (16, z), (15, z), (14, z), (13, z), (12, z), (11, z), (9, z), (8, z), (7, z), (6, z), (5, z), (4, z)]
def labE : List (Nat × Int) := [(10, 8), (18, 8), (17, 8), (16, 8), (15, 8), (14, 8), (13, 8), (12, 8), (11, 8)]
def labM : List (Nat × Int) := [(21, 0), (24, 0), (22, 0), (23, 0)]
def labT : List (Nat × Int) := [(19, 0), (20, 0)]
def labR : List (Nat × Int) := labP 7 ++ (labP 6 ++ (labP 5 ++ (labP 4 ++ (labP 3 ++ (labP 2 ++ (labE ++ (labM ++ (labT ++ (labP 1 ++ (labP 0 ++ []))))))))))
def wR (C : Nat → ClassId) (a : Nat → Nat) : va_W := wPz C a 7 ++ (wPz C a 6 ++ (wPz C a 5 ++ (wPz C a 4 ++ (wPz C a 3 ++ (wPz C a 2 ++ (wEz C a ++ (wM C (a 21) a ++ (wT C (a 19) a ++ (wPz C a 1 ++ (wPz C a 0 ++ []))))))))))
theorem lab_perm : ((1, 0) :: (2, 0) :: labR).Perm wl := by decide +kernel
theorem labP_eq {l : Launch} {D : va_G} {C : Nat → ClassId} {b q1 : Nat} {a1 : Nat → Nat} {g : Int → Int → Int} (z : Nat) : (labP z).map (fE (GG0 l D C b q1 a1 g) g) = wPz C a1 z := by
  show [fE _ g (3, z), fE _ g (10, z), fE _ g (18, z), fE _ g (17, z), fE _ g (16, z), fE _ g (15, z), fE _ g (14, z), fE _ g (13, z), fE _ g (12, z), fE _ g (11, z), fE _ g (9, z), fE _ g (8, z), fE _ g (7, z), fE _ g (6, z), fE _ g (5, z), fE _ g (4, z)] = _
  rw [obj_z (k := 3) rfl, obj_z (k := 10) rfl, row_z (k := 18) (t := 1) (v := 0) (w := 0) rfl (Or.inl rfl) (fun _ => rfl) o_0, row_z (k := 17) (t := 1) (v := 0) (w := 0) rfl (Or.inl rfl) (fun _ => rfl) o_0, row_z (k := 16) (t := 1) (v := 0) (w := 0) rfl (Or.inl rfl) (fun _ => rfl) o_0, row_z (k := 15) (t := 1) (v := 0) (w := 0) rfl (Or.inl rfl) (fun _ => rfl) o_0, row_z (k := 14) (t := 1) (v := 0) (w := 0) rfl (Or.inl rfl) (fun _ => rfl) o_0, row_z (k := 13) (t := 1) (v := 0) (w := 0) rfl (Or.inl rfl) (fun _ => rfl) o_0, row_z (k := 12) (t := 2) (v := 0) (w := 0) rfl (Or.inr (Or.inl rfl)) (fun _ => rfl) o_0, row_z (k := 11) (t := 1) (v := -1) (w := -1) rfl (Or.inl rfl) (fun _ => rfl) o_1, row_z (k := 9) (t := 2) (v := 0) (w := 0) rfl (Or.inr (Or.inl rfl)) (fun _ => rfl) o_0, row_z (k := 8) (t := 2) (v := 0) (w := 0) rfl (Or.inr (Or.inl rfl)) (fun _ => rfl) o_0, row_z (k := 7) (t := 1) (v := 0) (w := 0) rfl (Or.inl rfl) (fun _ => rfl) o_0, row_z (k := 6) (t := 1) (v := 0) (w := 0) rfl (Or.inl rfl) (fun _ => rfl) o_0, row_z (k := 5) (t := 1) (v := 0) (w := 0) rfl (Or.inl rfl) (fun _ => rfl) o_0, row_z (k := 4) (t := 1) (v := 0) (w := 0) rfl (Or.inl rfl) (fun _ => rfl) o_0]
  rfl
theorem labE_eq {l : Launch} {D : va_G} {C : Nat → ClassId} {b q1 : Nat} {a1 : Nat → Nat} {g : Int → Int → Int} : labE.map (fE (GG0 l D C b q1 a1 g) g) = wEz C a1 := by
  show [fE _ g (10, 8), fE _ g (18, 8), fE _ g (17, 8), fE _ g (16, 8), fE _ g (15, 8), fE _ g (14, 8), fE _ g (13, 8), fE _ g (12, 8), fE _ g (11, 8)] = _
  rw [obj_z (k := 10) rfl, row_z (k := 18) (t := 1) (v := 0) (w := 0) rfl (Or.inl rfl) (fun _ => rfl) o_0, row_z (k := 17) (t := 1) (v := 0) (w := 0) rfl (Or.inl rfl) (fun _ => rfl) o_0, row_z (k := 16) (t := 1) (v := 0) (w := 0) rfl (Or.inl rfl) (fun _ => rfl) o_0, row_z (k := 15) (t := 1) (v := 0) (w := 0) rfl (Or.inl rfl) (fun _ => rfl) o_0, row_z (k := 14) (t := 1) (v := 0) (w := 0) rfl (Or.inl rfl) (fun _ => rfl) o_0, row_z (k := 13) (t := 1) (v := 0) (w := 0) rfl (Or.inl rfl) (fun _ => rfl) o_0, row_z (k := 12) (t := 2) (v := 0) (w := 0) rfl (Or.inr (Or.inl rfl)) (fun _ => rfl) o_0, row_z (k := 11) (t := 1) (v := -1) (w := -1) rfl (Or.inl rfl) (fun _ => rfl) o_1]
  rfl
theorem labM_eq {l : Launch} {D : va_G} {C : Nat → ClassId} {b q1 : Nat} {a1 : Nat → Nat} {g : Int → Int → Int} : labM.map (fE (GG0 l D C b q1 a1 g) g) = wM C (a1 21) a1 := by
  show [fE _ g (21, 0), fE _ g (24, 0), fE _ g (22, 0), fE _ g (23, 0)] = _
  rw [obj_z (k := 21) rfl, row_z (k := 24) (t := 1) (v := 0) (w := 0) rfl (Or.inl rfl) (fun _ => rfl) o_0, obj_z (k := 22) rfl]
  rfl
theorem labT_eq {l : Launch} {D : va_G} {C : Nat → ClassId} {b q1 : Nat} {a1 : Nat → Nat} {g : Int → Int → Int} : labT.map (fE (GG0 l D C b q1 a1 g) g) = wT C (a1 19) a1 := by
  show [fE _ g (19, 0), fE _ g (20, 0)] = _
  rw [obj_z (k := 19) rfl, row_z (k := 20) (t := 1) (v := 0) (w := 0) rfl (Or.inl rfl) (fun _ => rfl) o_0]
  rfl
theorem labR_eq {l : Launch} {D : va_G} {C : Nat → ClassId} {b q1 : Nat} {a1 : Nat → Nat} {g : Int → Int → Int} : labR.map (fE (GG0 l D C b q1 a1 g) g) = wR C a1 := by
  unfold labR wR
  simp only [List.map_append, labP_eq, labE_eq, labM_eq, labT_eq, List.map_nil]
theorem row_q {C : Nat → ClassId} {b q1 : Nat} {a1 : Nat → Nat} {g : Int → Int → Int} : vp_cell (C 5) (6, .inr (.inr (.inr (.inr (upQ a1 6))))) = vp_cell (C 5) (6, .inr (.inr (.inr (.inr (fun j : Nat => some (gA0 b q1 a1 3 (ini g 2 0 (j : Int)))))))) := by
  rw [vp_cell_q, vp_cell_q]
  refine arr_cgr (fun j hj => ?_)
  rcases (show j = 0 ∨ j = 1 ∨ j = 2 ∨ j = 3 ∨ j = 4 ∨ j = 5 by omega) with rfl | rfl | rfl | rfl | rfl | rfl <;> rfl
theorem lab2 {l : Launch} {D : va_G} {C : Nat → ClassId} {b q1 : Nat} {a1 : Nat → Nat} {g : Int → Int → Int} : fE (GG0 l D C b q1 a1 g) g (2, 0) = (a1 2, .inl (C 5, 6, .inr (.inr (.inr (.inr (fun j : Nat => some (gA0 b q1 a1 3 (ini g 2 0 (j : Int))))))))) := by
  unfold fE
  show (a1 2, cnt (GG0 l D C b q1 a1 g) (ini g) (fun _ _ => 0) 2 0) = _
  rw [cnt_ref rfl]
  rfl
theorem lab1 {l : Launch} {D : va_G} {C : Nat → ClassId} {b q1 : Nat} {a1 : Nat → Nat} {g : Int → Int → Int} : fE (GG0 l D C b q1 a1 g) g (1, 0) = (q1, .inr (5, [.ref (a1 3), .ref (a1 (32 * 1 + 3)), .ref (a1 2), .int 0, .ref (a1 19), .ref (a1 21), .ref (a1 (32 * 8 + 10))])) := by
  rw [obj_z (k := 1) rfl]
  rfl
theorem Wo.row {D : va_G} {A : Nat → Prop} {s : State} {x : Nat × va_E} {q : Nat} {cA : ClassId} {u u' : vp_A} {ws : va_W} {H : Heap} {locs : List Loc} (e : vp_cell cA u = vp_cell cA u') (h : Wo D A s (x :: (q, .inl (cA, u)) :: ws) H locs) : Wo D A s (x :: (q, .inl (cA, u')) :: ws) H locs := by
  obtain ⟨h1, h2, h3⟩ := h
  have h5 := va_nodup h2
  refine ⟨fun k z hz => ?_, va_of_nodup h5 (fun z hz => ?_), h3⟩
  · match k, hz with
    | 0, hz => exact h1 0 z hz
    | 1, hz =>
      have hz : some (q, Sum.inl (cA, u')) = some z := hz
      cases hz
      have h4 : H[q]? = some (vp_cell cA u) := h1 1 (q, .inl (cA, u)) rfl
      show H[q]? = some (vp_cell cA u')
      rw [h4, e]
    | k + 2, hz => exact h1 (k + 2) z hz
  · rcases List.mem_cons.mp hz with rfl | hz
    · exact h2.2 0 _ rfl
    rcases List.mem_cons.mp hz with rfl | hz
    · exact h2.2 1 (q, .inl (cA, u)) rfl
    · obtain ⟨i, hi⟩ := List.getElem?_of_mem hz
      exact h2.2 (i + 2) z hi
theorem world_0 {l : Launch} {D : va_G} {C : Nat → ClassId} {b q1 : Nat} {a1 : Nat → Nat} {g : Int → Int → Int} {A : Nat → Prop} {s : State} {H : Heap} {locs : List Loc} (h : Wo D A s (wN C q1 a1 ++ []) H locs) : Wo D A s (wls (GG0 l D C b q1 a1 g) (ini g) (fun _ _ => 0)) H locs := by
  rw [List.append_nil] at h
  have h2 : Wo D A s ((q1, .inr (5, [.ref (a1 3), .ref (a1 (32 * 1 + 3)), .ref (a1 2), .int 0, .ref (a1 19), .ref (a1 21), .ref (a1 (32 * 8 + 10))])) :: (a1 2, .inl (C 5, 6, .inr (.inr (.inr (.inr (upQ a1 6)))))) :: wR C a1) H locs := h
  have h3 := h2.row (row_q (b := b) (q1 := q1) (g := g))
  have h4 : ((1, 0) :: (2, 0) :: labR).map (fE (GG0 l D C b q1 a1 g) g) = (q1, .inr (5, [.ref (a1 3), .ref (a1 (32 * 1 + 3)), .ref (a1 2), .int 0, .ref (a1 19), .ref (a1 21), .ref (a1 (32 * 8 + 10))])) :: (a1 2, .inl (C 5, 6, .inr (.inr (.inr (.inr (fun j : Nat => some (gA0 b q1 a1 3 (ini g 2 0 (j : Int))))))))) :: wR C a1 := by
    show fE (GG0 l D C b q1 a1 g) g (1, 0) :: fE (GG0 l D C b q1 a1 g) g (2, 0) :: labR.map (fE (GG0 l D C b q1 a1 g) g) = _
    rw [lab1, lab2, labR_eq]
  rw [← h4] at h3
  exact h3.perm (lab_perm.map _)
