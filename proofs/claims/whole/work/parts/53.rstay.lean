-- the reference's turn: a piece is put, a story stays, a story was moved
theorem OnL_snoc {L : List Pc} {x : Pc} {c l : Int} : OnL (L ++ [x]) c l ↔ OnL L c l ∨ OnX x c l := by
  unfold OnL
  constructor
  · rintro ⟨y, hy, g⟩
    rcases List.mem_append.1 hy with q | q
    · exact Or.inl ⟨y, q, g⟩
    · simp only [List.mem_cons, List.not_mem_nil, or_false] at q
      subst q
      exact Or.inr g
  · rintro (⟨y, hy, g⟩ | g)
    · exact ⟨y, List.mem_append.2 (Or.inl hy), g⟩
    · exact ⟨x, List.mem_append.2 (Or.inr (by simp)), g⟩
theorem OnL_nil {c l : Int} : ¬ OnL [] c l := by
  rintro ⟨y, hy, _⟩
  simp at hy
/-- all but a story's row of the reference's new edition, and the lines, stay -/
def FrF (m m' : MI) (i : Int) : Prop := (∀ k, k ≠ 31 → k ≠ 32 → m' k = m k) ∧ ∀ z, z ≠ 20 * i → ¬ (20 * i + 2 ≤ z ∧ z < 20 * i + 20) → m' 32 0 z = m 32 0 z
theorem FrF.refl {m : MI} {i : Int} : FrF m m i := ⟨fun _ _ _ => rfl, fun _ _ _ => rfl⟩
theorem FrF.trans {m m1 m2 : MI} {i : Int} (h : FrF m m1 i) (g : FrF m1 m2 i) : FrF m m2 i := ⟨fun k k1 k2 => by rw [g.1 k k1 k2, h.1 k k1 k2], fun z z1 z2 => by rw [g.2 z z1 z2, h.2 z z1 z2]⟩
theorem r_put {Γ : GG} {d : Nat} {m : MI} {n : ML} {post : PO} {i : Int} {x : Pc} {L : List Pc} (hi : 0 ≤ i ∧ i < 12) (hP : PutR (m 32 0) i L) (hl : L.length ≤ 2) (hx : (0 ≤ x.1 ∧ x.1 ≤ 4) ∧ (0 ≤ x.2.1 ∧ x.2.1 < 240) ∧ 0 ≤ x.2.2.1 ∧ x.2.1 % 60 + x.2.2.1 ≤ 60)
    (K : ∀ m', FrF m m' i → PutR (m' 32 0) i (L ++ [x]) → (∀ c l, 0 ≤ l → l < 60 → (Tm m' c l ↔ Tm m c l ∨ OnX x c l)) → post none m' n) : CM Γ (d + 2) 128 [vr 25 0, vi i, vi x.1, vi x.2.1, vi x.2.2.1, vi x.2.2.2.1, vi x.2.2.2.2] m n post := by
  refine r_prints hi hP.1 (by omega) hx.1 hx.2.1 hx.2.2 (fun m' k1 k2 k3 k4 k5 k6 k7 k8 k9 k10 => K m' ⟨k1, fun z z1 z2 => k9 z z1 (by omega)⟩ (hP.snoc k2 ⟨k3, k4, k5, k6, k7, k8⟩ (fun z z1 z2 => k9 z z1 z2)) (fun c l l0 l1 => ?_))
  have hm := k10 (60 * c + l)
  show ¬ m' 31 0 (60 * c + l) = 0 ↔ (¬ m 31 0 (60 * c + l) = 0) ∨ _
  unfold OnX
  rw [hm]
  by_cases q : 60 * (4 * x.1 + x.2.1 / 60) + x.2.1 % 60 ≤ 60 * c + l ∧ 60 * c + l < 60 * (4 * x.1 + x.2.1 / 60) + x.2.1 % 60 + x.2.2.1
  · rw [if_pos q]
    exact ⟨fun _ => Or.inr (by omega), fun _ => by omega⟩
  · rw [if_neg q]
    exact ⟨fun z => Or.inl z, fun z => z.elim id (fun w => absurd (by omega) q)⟩
/-- the first pieces of the edition before -/
def preL (V : Nat → Int → Int) (i : Int) (y : Nat) : List Pc := (List.range y).map (fun (k : Nat) => oldP V i (k : Int))
theorem preL_next {V : Nat → Int → Int} {i : Int} {y : Nat} : preL V i (y + 1) = preL V i y ++ [oldP V i y] := by
  unfold preL
  rw [List.range_succ, List.map_append]
  rfl
theorem preL_len {V : Nat → Int → Int} {i : Int} {y : Nat} : (preL V i y).length = y := by
  unfold preL
  rw [List.length_map, List.length_range]
/-- the reference's lines are those of the spec -/
def TR (m : MI) (T : Int → Int → Prop) : Prop := ∀ c l, 0 ≤ c → c < 20 → 0 ≤ l → l < 60 → (Tm m c l ↔ T c l)
set_option maxHeartbeats 4000000 in
theorem r_stays {Γ : GG} {d : Nat} {m : MI} {n : ML} {post : PO} {i t : Int} {V : Nat → Int → Int} {T : Int → Int → Prop} (hP : PRel V (m 26 0)) (hW : PWf V t) (ht : t ≤ 1000) (hi : 0 ≤ i ∧ i < V 3 3) (hT : TR m T) (h0 : m 32 0 (20 * i) = 0)
    (K1 : StyS V T i → ∀ m', FrF m m' i → PutR (m' 32 0) i (oldL V i) → TR m' (fun c l => T c l ∨ OnL (oldL V i) c l) → post (some (vi 1)) m' n) (K0 : ¬ StyS V T i → post (some (vi 0)) m n) : CM Γ (d + 3) 129 [vr 25 0, vi i] m n post := by
  have w := hW.1
  have w3 := w.2.2.2.1
  have w4 := w.2.2.2.2.1
  have hs := hW.2.1 i hi.1 hi.2
  have he := hW.2.2 i hi.1 (by omega)
  have e1 := he.1
  obtain ⟨⟨r0, r1, r2, r3, r4, r5⟩, rr⟩ := hP
  obtain ⟨sR, eR⟩ := rr i hi.1 hi.2
  have s3 := sR.2.2.2.1
  have sN := eR.1
  have ab9 := hs.2.2.2.2.1
  -- a story that does not stay
  have dead2 : ∀ N y o6 o7, (-9 ≤ N ∧ N ≤ 3) → (0 ≤ y ∧ y ≤ 3) → ¬ StyS V T i → AM Γ (d + 3) 129 147 [some (vr 25 0), some (vi i), some (vi (164 + 20 * i)), some (vi N), some (vi 0), some (vi y), o6, o7] [] m n post := fun N y o6 o7 hN hy q =>
    b129_147 (b129_150 (by omega) (by omega) (fun _ => b129_239 (Or.inl rfl) (K0 q)) (fun _ => b129_156 (by omega) (fun _ => b129_239 (Or.inl rfl) (K0 q)) (fun z => absurd rfl z)))
  have dead : ∀ y, 0 ≤ y → y ≤ 3 → ∀ N o6 o7, (-9 ≤ N ∧ N ≤ 3) → N ≤ 3 → (0 < N → N = V 11 i) → ¬ StyS V T i → AM Γ (d + 3) 129 50 [some (vr 25 0), some (vi i), some (vi (164 + 20 * i)), some (vi N), some (vi 0), some (vi y), o6, o7] [] m n post := by
    intro y y0 y3
    have key := up_ind (P := fun y => 0 ≤ y → ∀ N o6 o7, (-9 ≤ N ∧ N ≤ 3) → (0 < N → N = V 11 i) → ¬ StyS V T i → AM Γ (d + 3) 129 50 [some (vr 25 0), some (vi i), some (vi (164 + 20 * i)), some (vi N), some (vi 0), some (vi y), o6, o7] [] m n post) y 3 y3 ?_ ?_
    · exact fun N o6 o7 hN _ hn q => key y0 N o6 o7 hN hn q
    · intro _ N o6 o7 hN hn q
      exact b129_50 (by omega) (by omega) (fun _ => dead2 N 3 o6 o7 hN (by omega) q) (fun z => absurd z (by omega))
    · intro x x1 x2 ih x0 N o6 o7 hN hn q
      refine b129_50 (by omega) (by omega) (fun _ => dead2 N x o6 o7 hN (by omega) q) (fun z => b129_56 ?_)
      have hk := hn (by omega)
      have b := ed_bd w he (k := x) (by omega) (by omega)
      have pe := (eR.2.2 x (by omega) (by omega)).2.2.2.1
      have ea : 164 + 20 * i + 2 + 6 * x + 3 = 166 + 20 * i + 6 * x + 3 := by omega
      refine b129_70 (by omega) (by omega) (by rw [ea, pe]; omega) (fun _ => b129_141 (ih (by omega) N _ _ hN hn q)) (fun _ => b129_84 (by omega) (fun _ => b129_141 (ih (by omega) N _ _ hN hn q)) (fun z => absurd rfl z))
  -- the name of the count
  obtain ⟨N, hN⟩ : ∃ N, N = m 26 0 (164 + 20 * i) := ⟨_, rfl⟩
  have hNb : (-9 ≤ N ∧ N ≤ 3) ∧ (0 < N → N = V 11 i) ∧ (0 < V 11 i → N = V 11 i) := by
    rw [hN, sN]
    split <;> omega
  refine e129 (b129_0 (by omega) (by rw [← hN]; omega) (fun z => ?_) (fun z => ?_))
  · rw [← hN] at z ⊢
    exact b129_44 (b129_45 (dead 0 (by omega) (by omega) N _ _ hNb.1 hNb.1.2 hNb.2.1 (fun q => z (by have := q.1; have := hNb.2.2 q.1; omega))))
  · rw [← hN] at z ⊢
    have n1 := hNb.2.1 z
    refine b129_20 (r_of ⟨hi.1, by omega⟩ (by omega) ?_)
    rw [s3 (by omega)]
    refine b129_26 (by omega) (fun q => b129_44 (b129_45 (dead 0 (by omega) (by omega) N _ _ hNb.1 hNb.1.2 hNb.2.1 (fun w => q w.2.1)))) (fun q9 => ?_)
    have hn0 := (ed_bd w he (k := 0) (by omega) (by omega)).1
    refine b129_29 (by rw [r4]; omega) (fun u => absurd hn0 (by rw [r4] at u; exact u)) (fun _ => b129_40 (b129_45 ?_))
    -- the second loop: the pieces are put
    have puts : StyS V T i → ∀ y, 0 ≤ y → y ≤ N → ∀ mm o6 o7, FrF m mm i → PutR (mm 32 0) i (preL V i y.toNat) → TR mm (fun c l => T c l ∨ OnL (preL V i y.toNat) c l) → AM Γ (d + 3) 129 150 [some (vr 25 0), some (vi i), some (vi (164 + 20 * i)), some (vi N), some (vi 1), some (vi y), o6, o7] [] mm n post := by
      intro st y y0 yN
      have key := up_ind (P := fun y => 0 ≤ y → ∀ mm o6 o7, FrF m mm i → PutR (mm 32 0) i (preL V i y.toNat) → TR mm (fun c l => T c l ∨ OnL (preL V i y.toNat) c l) → AM Γ (d + 3) 129 150 [some (vr 25 0), some (vi i), some (vi (164 + 20 * i)), some (vi N), some (vi 1), some (vi y), o6, o7] [] mm n post) y N yN ?_ ?_
      · exact key y0
      · intro _ mm o6 o7 f1 f2 f3
        have eo : preL V i N.toNat = oldL V i := by rw [n1]; rfl
        rw [eo] at f2 f3
        exact b129_150 (by omega) (by omega) (fun _ => b129_239 (Or.inr rfl) (K1 st mm f1 f2 f3)) (fun u => absurd u (by omega))
      · intro x x1 x2 ih x0 mm o6 o7 f1 f2 f3
        have b := ed_bd w he (k := x) x0 (by omega)
        have b1 := (w.2.2.2.2.2 b.1)
        obtain ⟨p1, p2, p3, p4, p5, p6⟩ := eR.2.2 x x0 (by omega)
        have e26 : mm 26 = m 26 := f1.1 26 (by omega) (by omega)
        refine b129_150 (by omega) (by omega) (fun u => absurd x2 u) (fun _ => b129_156 (by omega) (fun u => absurd u (by omega)) (fun _ => b129_161 (by omega) (by omega) (by omega) (by omega) (by omega) (by omega) ?_))
        rw [e26, show 164 + 20 * i + 2 + 6 * x = 166 + 20 * i + 6 * x by omega, p1, p2, p3, p4, p5, p6, show 60 * V 14 (i * 3 + x) + V 15 (i * 3 + x) = V 14 (i * 3 + x) * 60 + V 15 (i * 3 + x) by omega]
        have ex : ((x.toNat : Nat) : Int) = x := by omega
        refine r_put (x := oldP V i x) ⟨hi.1, by omega⟩ f2 (by rw [preL_len]; omega) ⟨⟨b.2.1.1, show V 13 (i * 3 + x) ≤ 4 by omega⟩, ⟨show 0 ≤ V 14 (i * 3 + x) * 60 + V 15 (i * 3 + x) by omega, show V 14 (i * 3 + x) * 60 + V 15 (i * 3 + x) < 240 by omega⟩, show 0 ≤ V 16 (i * 3 + x) by omega, show (V 14 (i * 3 + x) * 60 + V 15 (i * 3 + x)) % 60 + V 16 (i * 3 + x) ≤ 60 by omega⟩ (fun m' g1 g2 g3 => b129_233 (ih (by omega) m' _ _ (f1.trans g1) ?_ (fun c l c0 c1 l0 l1 => ?_)))
        · rw [show (x + 1).toNat = x.toNat + 1 by omega, preL_next, ex]
          exact g2
        · rw [g3 c l l0 l1, f3 c l c0 c1 l0 l1, show (x + 1).toNat = x.toNat + 1 by omega, preL_next, ex]
          dsimp only
          rw [OnL_snoc, or_assoc]
    -- the first loop: the lines are looked at
    have looks : ∀ y, 0 ≤ y → y ≤ N → ∀ o6 o7, (∀ k, 0 ≤ k → k < y → ∀ l, V 15 (i * 3 + k) ≤ l → l < V 15 (i * 3 + k) + V 16 (i * 3 + k) → ¬ T (V 13 (i * 3 + k) * 4 + V 14 (i * 3 + k)) l) → AM Γ (d + 3) 129 50 [some (vr 25 0), some (vi i), some (vi (164 + 20 * i)), some (vi N), some (vi 1), some (vi y), o6, o7] [] m n post := by
      intro y y0 yN
      have key := up_ind (P := fun y => 0 ≤ y → ∀ o6 o7, (∀ k, 0 ≤ k → k < y → ∀ l, V 15 (i * 3 + k) ≤ l → l < V 15 (i * 3 + k) + V 16 (i * 3 + k) → ¬ T (V 13 (i * 3 + k) * 4 + V 14 (i * 3 + k)) l) → AM Γ (d + 3) 129 50 [some (vr 25 0), some (vi i), some (vi (164 + 20 * i)), some (vi N), some (vi 1), some (vi y), o6, o7] [] m n post) y N yN ?_ ?_
      · exact key y0
      · intro _ o6 o7 hf
        have st : StyS V T i := by
          refine ⟨by omega, q9, fun c l c0 c1 l0 l1 o => ?_⟩
          obtain ⟨k, k0, k1, k2, k3, k4⟩ := o
          rw [k2]
          exact hf k k0 (by omega) l k3 k4
        refine b129_50 (by omega) (by omega) (fun _ => b129_147 (puts st 0 (by omega) (by omega) m _ _ FrF.refl (PutR.nil h0) (fun c l c0 c1 l0 l1 => ?_))) (fun u => absurd u (by omega))
        rw [hT c l c0 c1 l0 l1]
        exact ⟨Or.inl, fun u => u.elim id (fun v => absurd v OnL_nil)⟩
      · intro x x1 x2 ih x0 o6 o7 hf
        have b := ed_bd w he (k := x) x0 (by omega)
        obtain ⟨p1, p2, p3, p4, p5, p6⟩ := eR.2.2 x x0 (by omega)
        rw [show 166 + 20 * i + 6 * x = 164 + 20 * i + 2 + 6 * x by omega] at p1 p2 p3 p4 p5 p6
        refine b129_50 (by omega) (by omega) (fun u => absurd x2 u) (fun _ => b129_56 ?_)
        have inner := up_ind (P := fun l => 0 ≤ l → (∀ j, V 15 (i * 3 + x) ≤ j → j < V 15 (i * 3 + x) + l → ¬ T (V 13 (i * 3 + x) * 4 + V 14 (i * 3 + x)) j) → AM Γ (d + 3) 129 70 [some (vr 25 0), some (vi i), some (vi (164 + 20 * i)), some (vi N), some (vi 1), some (vi x), some (vi (164 + 20 * i + 2 + 6 * x)), some (vi l)] [] m n post) 0 (V 16 (i * 3 + x)) (by omega) ?_ ?_
        · exact inner (by omega) (fun j j1 j2 => by omega)
        · intro _ hl
          refine b129_70 (by omega) (by omega) (by rw [p4]; omega) (fun _ => b129_141 (ih (by omega) _ _ (fun k k0 k1 l l1 l2 => ?_))) (fun u => absurd u (by rw [p4]; omega))
          rcases (show k < x ∨ k = x by omega) with v | v
          · exact hf k k0 v l l1 l2
          · rw [v] at l1 l2 ⊢
            exact hl l l1 l2
        · intro l l1 l2 ihl l0 hl
          refine b129_70 (by omega) (by omega) (by rw [p4]; omega) (fun u => absurd l2 (by rw [p4] at u; exact u)) (fun _ => b129_84 (by omega) (fun u => absurd u (by omega)) (fun _ => b129_89 (by omega) (by omega) (by omega) ?_))
          rw [p1, p2, p3]
          have tb : Tm m (V 13 (i * 3 + x) * 4 + V 14 (i * 3 + x)) (V 15 (i * 3 + x) + l) ↔ T (V 13 (i * 3 + x) * 4 + V 14 (i * 3 + x)) (V 15 (i * 3 + x) + l) := hT _ _ (by omega) (by omega) (by omega) (by omega)
          have ez : 60 * (V 13 (i * 3 + x) * 4 + V 14 (i * 3 + x)) + (V 15 (i * 3 + x) + l) = 60 * (4 * V 13 (i * 3 + x) + V 14 (i * 3 + x)) + (V 15 (i * 3 + x) + l) := by omega
          have tb2 : ¬ m 31 0 (60 * (V 13 (i * 3 + x) * 4 + V 14 (i * 3 + x)) + (V 15 (i * 3 + x) + l)) = 0 ↔ T (V 13 (i * 3 + x) * 4 + V 14 (i * 3 + x)) (V 15 (i * 3 + x) + l) := tb
          rw [ez] at tb2
          refine r_lineAt (AM.w0 fun _ hB _ => ?_)
          have hb := hB 31 0 (60 * (4 * V 13 (i * 3 + x) + V 14 (i * 3 + x)) + (V 15 (i * 3 + x) + l)) (by decide)
          refine b129_124 (by omega) (by omega) (fun u => b129_132 (b129_133 ?_)) (fun u => b129_128 (b129_133 (ihl (by omega) (fun j j1 j2 => ?_))))
          · -- taken: it does not stay
            have q : ¬ StyS V T i := fun s => s.2.2 (V 13 (i * 3 + x) * 4 + V 14 (i * 3 + x)) (V 15 (i * 3 + x) + l) (by omega) (by omega) (by omega) (by omega) ⟨x, x0, by omega, rfl, by omega, by omega⟩ (tb2.1 u)
            refine b129_70 (by omega) (by omega) (by rw [p4]; omega) (fun _ => b129_141 (dead (x + 1) (by omega) (by omega) N _ _ hNb.1 hNb.1.2 hNb.2.1 q)) (fun _ => b129_84 (by omega) (fun _ => b129_141 (dead (x + 1) (by omega) (by omega) N _ _ hNb.1 hNb.1.2 hNb.2.1 q)) (fun v => absurd rfl v))
          · rcases (show j < V 15 (i * 3 + x) + l ∨ j = V 15 (i * 3 + x) + l by omega) with v | v
            · exact hl j j1 v
            · rw [v]; exact fun s => tb2.2 s u
    exact looks 0 (by omega) (by omega) _ _ (fun k k0 k1 => by omega)
