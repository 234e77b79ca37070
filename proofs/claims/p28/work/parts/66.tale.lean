-- THE LAW'S DIGEST
def fo (f : Int → Int64 → Int64) : Nat → Int64 → Int64
  | 0, x => x
  | k + 1, x => f (k : Int) (fo f k x)
theorem fo_succ {f : Int → Int64 → Int64} {y : Int} {x : Int64} (h : 0 ≤ y) : fo f (y + 1).toNat x = f y (fo f y.toNat x) := by
  rw [show (y + 1).toNat = y.toNat + 1 by omega]
  show f ((y.toNat : Nat) : Int) (fo f y.toNat x) = _
  rw [show ((y.toNat : Nat) : Int) = y by omega]
abbrev lg (x : Int) : Int64 := (Int32.ofInt x).toInt64
def fCnt (V : Nat → Int → Int) (tl : Int) : Int → Int64 → Int64 := fun k z => z * 31 + lg (cntF V tl k)
def fSto (V : Nat → Int → Int) (i : Int) : Int → Int64 → Int64 := fun k z => z * 37 + lg (stoF V i k)
def fPar (V : Nat → Int → Int) (i : Int) : Int → Int64 → Int64 := fun k z => z * 41 + lg (parF V i k)
def fPie (V : Nat → Int → Int) (i k : Int) : Int → Int64 → Int64 := fun w z => z * 47 + lg (pieF V i k w)
def fPcs (V : Nat → Int → Int) (i : Int) : Int → Int64 → Int64 := fun k z => fo (fPie V i k) 8 z
def fOne (V : Nat → Int → Int) : Int → Int64 → Int64 := fun i z => fo (fPcs V i) 3 (fo (fPar V i) 8 (fo (fSto V i) 6 z) * 43 + lg (pcsF V i) + 5 * lg (wmvF V i))
def fEdi (V : Nat → Int → Int) : Int → Int64 → Int64 := fun k z => z * 53 + lg (ediF V k)
noncomputable def taleF (V : Nat → Int → Int) (tl : Int) : Int64 := fo (fEdi V) 6 (fo (fOne V) (V 3 3).toNat (fo (fCnt V tl) 7 3)) + lg (nxtF V 0) * 7 + lg (nxtF V 1) * 11 + lg (nxtF V 2)
def VK (m : MI) (V : Nat → Int → Int) : Prop := ∀ k, 3 ≤ k → k ≤ 18 → Vw m 0 k = V k
theorem VK.wf {m : MI} {V : Nat → Int → Int} {t : Int} (h : VK m V) (hW : PWf V t) : PWf (Vw m 0) t := hW.congr (fun k k1 k2 i _ _ => by rw [h k k1 k2])
theorem cntF_vk {m : MI} {V : Nat → Int → Int} (e : VK m V) {tl k : Int} : cntF (Vw m 0) tl k = cntF V tl k := by
  unfold cntF
  rw [e 3 (by omega) (by omega), e 8 (by omega) (by omega), e 10 (by omega) (by omega)]
theorem stoF_vk {m : MI} {V : Nat → Int → Int} (e : VK m V) {i w : Int} : stoF (Vw m 0) i w = stoF V i w := by
  unfold stoF
  rw [e 3 (by omega) (by omega), e 4 (by omega) (by omega), e 5 (by omega) (by omega), e 6 (by omega) (by omega), e 7 (by omega) (by omega), e 8 (by omega) (by omega)]
theorem parF_vk {m : MI} {V : Nat → Int → Int} (e : VK m V) {i p : Int} : parF (Vw m 0) i p = parF V i p := by
  unfold parF
  rw [e 6 (by omega) (by omega), e 7 (by omega) (by omega)]
theorem pcsF_vk {m : MI} {V : Nat → Int → Int} (e : VK m V) {i : Int} : pcsF (Vw m 0) i = pcsF V i := by
  unfold pcsF
  rw [e 10 (by omega) (by omega), e 11 (by omega) (by omega)]
theorem wmvF_vk {m : MI} {V : Nat → Int → Int} (e : VK m V) {i : Int} : wmvF (Vw m 0) i = wmvF V i := by
  unfold wmvF
  rw [e 10 (by omega) (by omega), e 11 (by omega) (by omega), e 12 (by omega) (by omega)]
theorem pieF_vk {m : MI} {V : Nat → Int → Int} (e : VK m V) {i k w : Int} : pieF (Vw m 0) i k w = pieF V i k w := by
  unfold pieF prpV
  rw [e 10 (by omega) (by omega), e 11 (by omega) (by omega), e 13 (by omega) (by omega), e 14 (by omega) (by omega), e 15 (by omega) (by omega), e 16 (by omega) (by omega), e 17 (by omega) (by omega), e 18 (by omega) (by omega)]
theorem ediF_vk {m : MI} {V : Nat → Int → Int} (e : VK m V) {w : Int} : ediF (Vw m 0) w = ediF V w := by
  unfold ediF
  rw [e 10 (by omega) (by omega), e 11 (by omega) (by omega), e 12 (by omega) (by omega), e 16 (by omega) (by omega)]
theorem t_cnt {Γ : GG} {d : Nat} {m : MI} {n : ML} {post : PO} {t : Int} {V : Nat → Int → Int} (e : VK m V) (hW : PWf V t) (ht : t ≤ 1000) {x : Int64} {o4 o5 : Option AV} (K : AM Γ (d + 8) 76 31 [some (vr 1 0), some (vl (fo (fCnt V (m 19 0 0)) 7 x)), none, some (vi 7), o4, o5] [] m n post) : AM Γ (d + 8) 76 6 [some (vr 1 0), some (vl (x)), none, some (vi 0), o4, o5] [] m n post := by
  refine up_ind (P := fun y => AM Γ (d + 8) 76 6 [some (vr 1 0), some (vl (fo (fCnt V (m 19 0 0)) y.toNat x)), none, some (vi y), o4, o5] [] m n post) 0 7 (by omega) ?_ (fun y y0 y1 ih => ?_)
  · exact b76_6 (ir (by omega) (by omega)) (fun _ => K) (fun z => absurd z (by omega))
  · rw [fo_succ y0] at ih
    refine b76_6 (ir (by omega) (by omega)) (fun z => absurd y1 z) (fun _ => b76_12 (a_count (d := d + 2) (e.wf hW) ⟨y0, by omega⟩ (b76_22 ?_)))
    rw [cntF_vk e]
    exact ih
theorem t_sto {Γ : GG} {d : Nat} {m : MI} {n : ML} {post : PO} {t : Int} {V : Nat → Int → Int} (e : VK m V) (hW : PWf V t) (ht : t ≤ 1000) {i : Int} (hi : 0 ≤ i ∧ i < m 3 0 3) {x : Int64} {o5 : Option AV} (K : AM Γ (d + 8) 76 73 [some (vr 1 0), some (vl (fo (fSto V i) 6 x)), none, some (vi i), some (vi 6), o5] [] m n post) : AM Γ (d + 8) 76 45 [some (vr 1 0), some (vl (x)), none, some (vi i), some (vi 0), o5] [] m n post := by
  refine up_ind (P := fun y => AM Γ (d + 8) 76 45 [some (vr 1 0), some (vl (fo (fSto V i) y.toNat x)), none, some (vi i), some (vi y), o5] [] m n post) 0 6 (by omega) ?_ (fun y y0 y1 ih => ?_)
  · exact b76_45 (ir (by omega) (by omega)) (fun _ => K) (fun z => absurd z (by omega))
  · rw [fo_succ y0] at ih
    refine b76_45 (ir (by omega) (by omega)) (fun z => absurd y1 z) (fun _ => b76_52 (a_story (d := d + 2) (e.wf hW) hi ⟨y0, by omega⟩ (b76_64 ?_)))
    rw [stoF_vk e]
    exact ih
theorem t_par {Γ : GG} {d : Nat} {m : MI} {n : ML} {post : PO} {t : Int} {V : Nat → Int → Int} (e : VK m V) (hW : PWf V t) (ht : t ≤ 1000) {i : Int} (hi : 0 ≤ i ∧ i < m 3 0 3) {x : Int64} {o5 : Option AV} (K : AM Γ (d + 8) 76 104 [some (vr 1 0), some (vl (fo (fPar V i) 8 x)), none, some (vi i), some (vi 8), o5] [] m n post) : AM Γ (d + 8) 76 76 [some (vr 1 0), some (vl (x)), none, some (vi i), some (vi 0), o5] [] m n post := by
  refine up_ind (P := fun y => AM Γ (d + 8) 76 76 [some (vr 1 0), some (vl (fo (fPar V i) y.toNat x)), none, some (vi i), some (vi y), o5] [] m n post) 0 8 (by omega) ?_ (fun y y0 y1 ih => ?_)
  · exact b76_76 (ir (by omega) (by omega)) (fun _ => K) (fun z => absurd z (by omega))
  · rw [fo_succ y0] at ih
    refine b76_76 (ir (by omega) (by omega)) (fun z => absurd y1 z) (fun _ => b76_83 (a_paragraph (d := d + 2) (e.wf hW) hi ⟨y0, by omega⟩ (b76_95 ?_)))
    rw [parF_vk e]
    exact ih
theorem t_pie {Γ : GG} {d : Nat} {m : MI} {n : ML} {post : PO} {t : Int} {V : Nat → Int → Int} (e : VK m V) (hW : PWf V t) (ht : t ≤ 1000) {i k : Int} (hi : 0 ≤ i ∧ i < m 3 0 3) (hk : 0 ≤ k ∧ k < 3) {x : Int64} (K : AM Γ (d + 8) 76 170 [some (vr 1 0), some (vl (fo (fPie V i k) 8 x)), none, some (vi i), some (vi k), some (vi 8)] [] m n post) : AM Γ (d + 8) 76 140 [some (vr 1 0), some (vl (x)), none, some (vi i), some (vi k), some (vi 0)] [] m n post := by
  refine up_ind (P := fun y => AM Γ (d + 8) 76 140 [some (vr 1 0), some (vl (fo (fPie V i k) y.toNat x)), none, some (vi i), some (vi k), some (vi y)] [] m n post) 0 8 (by omega) ?_ (fun y y0 y1 ih => ?_)
  · exact b76_140 (ir (by omega) (by omega)) (fun _ => K) (fun z => absurd z (by omega))
  · rw [fo_succ y0] at ih
    refine b76_140 (ir (by omega) (by omega)) (fun z => absurd y1 z) (fun _ => b76_147 (a_piece (d := d + 2) (e.wf hW) ht hi ⟨hk.1, by omega⟩ ⟨y0, by omega⟩ (b76_161 ?_)))
    rw [pieF_vk e]
    exact ih
theorem t_pcs {Γ : GG} {d : Nat} {m : MI} {n : ML} {post : PO} {t : Int} {V : Nat → Int → Int} (e : VK m V) (hW : PWf V t) (ht : t ≤ 1000) {i : Int} (hi : 0 ≤ i ∧ i < m 3 0 3) {x : Int64} {o5 : Option AV} (K : ∀ o5, AM Γ (d + 8) 76 176 [some (vr 1 0), some (vl (fo (fPcs V i) 3 x)), none, some (vi i), some (vi 3), o5] [] m n post) : AM Γ (d + 8) 76 131 [some (vr 1 0), some (vl (x)), none, some (vi i), some (vi 0), o5] [] m n post := by
  have key := up_ind (P := fun y => ∀ o5, AM Γ (d + 8) 76 131 [some (vr 1 0), some (vl (fo (fPcs V i) y.toNat x)), none, some (vi i), some (vi y), o5] [] m n post) 0 3 (by omega) ?_ (fun y y0 y1 ih => ?_)
  · exact key o5
  · exact fun o5 => b76_131 (ir (by omega) (by omega)) (fun _ => K o5) (fun z => absurd z (by omega))
  · intro o5
    have ih := ih (some (vi 8))
    rw [fo_succ y0] at ih
    exact b76_131 (ir (by omega) (by omega)) (fun z => absurd y1 z) (fun _ => b76_137 (t_pie e hW ht hi ⟨y0, y1⟩ (b76_170 ih)))
theorem t_all {Γ : GG} {d : Nat} {m : MI} {n : ML} {post : PO} {t : Int} {V : Nat → Int → Int} (e : VK m V) (hW : PWf V t) (ht : t ≤ 1000) {x : Int64} {o4 o5 : Option AV} (K : ∀ o4 o5, AM Γ (d + 8) 76 182 [some (vr 1 0), some (vl (fo (fOne V) (V 3 3).toNat x)), none, some (vi (V 3 3)), o4, o5] [] m n post) : AM Γ (d + 8) 76 33 [some (vr 1 0), some (vl (x)), none, some (vi 0), o4, o5] [] m n post := by
  have c := ask_cnt hW
  have e3 : m 3 0 3 = V 3 3 := by rw [← e 3 (by omega) (by omega)]
  have cnt3 : cntF V (m 19 0 0) 3 = V 3 3 := rfl
  have key := up_ind (P := fun y => ∀ o4 o5, AM Γ (d + 8) 76 33 [some (vr 1 0), some (vl (fo (fOne V) y.toNat x)), none, some (vi y), o4, o5] [] m n post) 0 (V 3 3) c.1 ?_ (fun y y0 y1 ih => ?_)
  · exact key o4 o5
  · intro o4 o5
    refine b76_33 (a_count (d := d + 2) (e.wf hW) ⟨by omega, by omega⟩ ?_)
    rw [cntF_vk e, cnt3]
    exact b76_39 (ir (by omega) (by omega)) (ir (by omega) (by omega)) (fun _ => K o4 o5) (fun z => absurd z (by omega))
  · intro o4 o5
    have hi : 0 ≤ y ∧ y < m 3 0 3 := ⟨y0, by omega⟩
    refine b76_33 (a_count (d := d + 2) (e.wf hW) ⟨by omega, by omega⟩ ?_)
    rw [cntF_vk e, cnt3]
    refine b76_39 (ir (by omega) (by omega)) (ir (by omega) (by omega)) (fun z => absurd y1 z) (fun _ => b76_42 (t_sto e hW ht hi (b76_73 (t_par e hW ht hi ?_))))
    refine b76_104 (a_pieces (d := d + 2) (e.wf hW) ht hi (b76_114 (a_wasMoved (d := d + 2) (e.wf hW) ht hi (b76_124 ?_))))
    rw [pcsF_vk e, wmvF_vk e]
    refine t_pcs e hW ht hi (fun o5 => b76_176 ?_)
    have ih := ih (some (vi 3)) o5
    rw [fo_succ y0] at ih
    exact ih
theorem t_edi {Γ : GG} {d : Nat} {m : MI} {n : ML} {post : PO} {t : Int} {V : Nat → Int → Int} (e : VK m V) (hW : PWf V t) (ht : t ≤ 1000) {x : Int64} {o4 o5 : Option AV} (K : AM Γ (d + 8) 76 209 [some (vr 1 0), some (vl (fo (fEdi V) 6 x)), none, some (vi 6), o4, o5] [] m n post) : AM Γ (d + 8) 76 184 [some (vr 1 0), some (vl (x)), none, some (vi 0), o4, o5] [] m n post := by
  refine up_ind (P := fun y => AM Γ (d + 8) 76 184 [some (vr 1 0), some (vl (fo (fEdi V) y.toNat x)), none, some (vi y), o4, o5] [] m n post) 0 6 (by omega) ?_ (fun y y0 y1 ih => ?_)
  · exact b76_184 (ir (by omega) (by omega)) (fun _ => K) (fun z => absurd z (by omega))
  · rw [fo_succ y0] at ih
    refine b76_184 (ir (by omega) (by omega)) (fun z => absurd y1 z) (fun _ => b76_190 (a_edition (d := d + 2) (e.wf hW) ht ⟨y0, by omega⟩ (b76_200 ?_)))
    rw [ediF_vk e]
    exact ih
theorem t_tale {Γ : GG} {d : Nat} {m : MI} {n : ML} {post : PO} {t : Int} {V : Nat → Int → Int} (e : VK m V) (hW : PWf V t) (ht : t ≤ 1000) (K : ∀ m' n', FrX m m' → post (some (vl (taleF V (m 19 0 0)))) m' n') : AM Γ (d + 8) 76 0 [some (vr 1 0), none, none, none, none, none] [] m n post := by
  refine b76_0 (t_cnt e hW ht (b76_31 (t_all e hW ht (fun o4 o5 => b76_182 (t_edi e hW ht ?_)))))
  refine b76_209 (a_next (d := d) (V := V) e hW ⟨by omega, by omega⟩ (fun m1 n1 f1 => b76_215 ?_))
  have v1 : ∀ k, 3 ≤ k → k ≤ 18 → m1 k 0 = V k := fun k k1 k2 => by rw [f1 k 0 (by omega) (by omega)]; exact e k k1 k2
  refine a_next (d := d) (V := V) v1 hW ⟨by omega, by omega⟩ (fun m2 n2 f2 => b76_226 ?_)
  have v2 : ∀ k, 3 ≤ k → k ≤ 18 → m2 k 0 = V k := fun k k1 k2 => by rw [f2 k 0 (by omega) (by omega)]; exact v1 k k1 k2
  refine a_next (d := d) (V := V) v2 hW ⟨by omega, by omega⟩ (fun m3 n3 f3 => b76_237 ?_)
  exact K m3 n3 ((f1.trans f2).trans f3)
/-- the present paper, cells beyond the rows' ends left out -/
def Nv (m : MI) : Nat → Int → Int := fun k i => if 3 ≤ k ∧ k ≤ 18 then nrm m k 0 i else 0
theorem Nv_eq {m m' : MI} (h : VEq (Vw m' 0) (Vw m 0)) : Nv m' = Nv m := by
  funext k i
  unfold Nv nrm
  by_cases q : 3 ≤ k ∧ k ≤ 18
  · rw [if_pos q, if_pos q, if_pos q, if_pos q]
    by_cases w : 0 ≤ i ∧ i < lenK k
    · rw [if_pos w, if_pos w]
      exact h k q.1 q.2 i w.1 w.2
    · rw [if_neg w, if_neg w]
  · rw [if_neg q, if_neg q]
theorem Nv_k (m : MI) : VK (nrm m) (Nv m) := fun k k1 k2 => by
  funext i
  show nrm m k 0 i = _
  unfold Nv
  rw [if_pos ⟨k1, k2⟩]
theorem Nv_wf {m : MI} {t : Int} (hW : PWf (Vw m 0) t) : PWf (Nv m) t := hW.congr (fun k k1 k2 i i0 i1 => by
  unfold Nv
  rw [if_pos ⟨k1, k2⟩]
  exact nrm_in ⟨i0, i1⟩)
/-- the digest of a memory -/
noncomputable def taleM (m : MI) : Int64 := taleF (Nv m) (m 19 0 0)
theorem taleM_eq {m m' : MI} (h : VEq (Vw m' 0) (Vw m 0)) (h2 : m' 19 0 0 = m 19 0 0) : taleM m' = taleM m := by
  unfold taleM
  rw [Nv_eq h, h2]
theorem a_tale {Γ : GG} {d : Nat} {m : MI} {n : ML} {post : PO} {t : Int} (hI : Inv t m) (ht : t ≤ 1000) (K : ∀ m' n', FrT m m' → post (some (vl (taleM m))) m' n') : CM Γ (d + 8) 76 [vr 1 0] m n post := by
  refine e76 (AM.nrm (t_tale (V := Nv m) (Nv_k m) (Nv_wf hI.1.1) ht (fun m' n' f => ?_)))
  have e19 : nrm m 19 = m 19 := nrm_out (by omega)
  rw [e19]
  exact K m' n' ((FrT.nrm m).trans f.t)
