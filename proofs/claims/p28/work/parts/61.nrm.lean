-- cells beyond a row's end are none of the world's
def nrm (m : MI) : MI := fun k p i => if 3 ≤ k ∧ k ≤ 18 then (if 0 ≤ i ∧ i < lenK k then m k p i else 0) else m k p i
theorem nrm_in {m : MI} {k : Nat} {p i : Int} (h : 0 ≤ i ∧ i < lenK k) : nrm m k p i = m k p i := by
  unfold nrm
  by_cases q : 3 ≤ k ∧ k ≤ 18
  · rw [if_pos q, if_pos h]
  · rw [if_neg q]
theorem nrm_out {m : MI} {k : Nat} (h : ¬ (3 ≤ k ∧ k ≤ 18)) : nrm m k = m k := by
  funext p i
  unfold nrm
  rw [if_neg h]
theorem arrV_eq {c : ClassId} {N : Nat} {f g : Nat → Value} (h : ∀ j, j < N → f j = g j) : arrV c N f = arrV c N g := by
  unfold arrV
  have e : (fun j : Fin N => f j.val) = fun j => g j.val := funext fun j => h j.val j.isLt
  rw [e]
theorem wd_nrm {Γ : GG} {m : MI} {n : ML} {s : State} {H : Heap} (h : Wd Γ m n s H) : Wd Γ (nrm m) n s H := by
  refine ⟨fun z q hq => ?_, h.2.1, by rw [nrm_out (by omega)]; exact h.2.2.1, fun k p i hk => ?_, fun p i => by rw [nrm_out (by omega)]; exact h.2.2.2.2 p i⟩
  · obtain ⟨x, hx, rfl⟩ := wls_got hq
    have g := h.1 z _ (wls_get hx)
    by_cases hk : 3 ≤ x.1 ∧ x.1 ≤ 18
    · by_cases h7 : akind x.1 = 7
      · have hc : x.1 = 3 ∨ x.1 = 10 := by
          rcases kd_obj h7 with e | e | e | e | e | e <;> omega
        have e : flds x.1 x.2 (nrm m) n = flds x.1 x.2 m n := by
          rcases hc with e | e
          · rw [e]
            show ([vi (nrm m 3 x.2 0), vi (nrm m 3 x.2 1), vi (nrm m 3 x.2 2), vi (nrm m 3 x.2 3), vr 4 x.2, vr 5 x.2, vr 6 x.2, vr 7 x.2, vr 8 x.2, vr 9 x.2, vr 10 x.2] : List AV) = _
            rw [nrm_in (k := 3) (i := 0) (by decide), nrm_in (k := 3) (i := 1) (by decide), nrm_in (k := 3) (i := 2) (by decide), nrm_in (k := 3) (i := 3) (by decide)]
            rfl
          · rw [e]
            show ([vi (nrm m 10 x.2 0), vi (nrm m 10 x.2 1), vi (nrm m 10 x.2 2), vi (nrm m 10 x.2 3), vr 11 x.2, vr 12 x.2, vr 13 x.2, vr 14 x.2, vr 15 x.2, vr 16 x.2, vr 17 x.2, vr 18 x.2] : List AV) = _
            rw [nrm_in (k := 10) (i := 0) (by decide), nrm_in (k := 10) (i := 1) (by decide), nrm_in (k := 10) (i := 2) (by decide), nrm_in (k := 10) (i := 3) (by decide)]
            rfl
        rw [cnt_obj h7] at g ⊢
        rw [e]
        exact g
      · have ht : ∃ t, akind x.1 = t ∧ (t = 1 ∨ t = 2 ∨ t = 3) ∧ lenK x.1 = alen x.1 := by
          have : x.1 = 3 ∨ x.1 = 4 ∨ x.1 = 5 ∨ x.1 = 6 ∨ x.1 = 7 ∨ x.1 = 8 ∨ x.1 = 9 ∨ x.1 = 10 ∨ x.1 = 11 ∨ x.1 = 12 ∨ x.1 = 13 ∨ x.1 = 14 ∨ x.1 = 15 ∨ x.1 = 16 ∨ x.1 = 17 ∨ x.1 = 18 := by omega
          rcases this with e | e | e | e | e | e | e | e | e | e | e | e | e | e | e | e <;> rw [e] at h7 ⊢
          · exact absurd rfl h7
          · exact ⟨1, rfl, by omega, rfl⟩
          · exact ⟨1, rfl, by omega, rfl⟩
          · exact ⟨1, rfl, by omega, rfl⟩
          · exact ⟨1, rfl, by omega, rfl⟩
          · exact ⟨2, rfl, by omega, rfl⟩
          · exact ⟨2, rfl, by omega, rfl⟩
          · exact absurd rfl h7
          · exact ⟨1, rfl, by omega, rfl⟩
          · exact ⟨2, rfl, by omega, rfl⟩
          · exact ⟨1, rfl, by omega, rfl⟩
          · exact ⟨1, rfl, by omega, rfl⟩
          · exact ⟨1, rfl, by omega, rfl⟩
          · exact ⟨1, rfl, by omega, rfl⟩
          · exact ⟨1, rfl, by omega, rfl⟩
          · exact ⟨1, rfl, by omega, rfl⟩
        obtain ⟨t, a1, a2, a3⟩ := ht
        rw [cnt_int a1 a2] at g ⊢
        have e : vp_cell (gC Γ t) ((alen x.1).toNat, .inl (fun j => Int32.ofInt (nrm m x.1 x.2 (j : Int)))) = vp_cell (gC Γ t) ((alen x.1).toNat, .inl (fun j => Int32.ofInt (m x.1 x.2 (j : Int)))) := by
          rw [vp_cell_i, vp_cell_i]
          exact arrV_eq fun j hj => by rw [nrm_in (by rw [a3]; omega)]
        show H[gA Γ x.1 x.2]? = some _
        rw [e]
        exact g
    · have e := cnt_congr (Γ := Γ) (m := m) (m' := nrm m) (n := n) (n' := n) (k := x.1) (p := x.2) (by rw [nrm_out hk]) rfl
      rw [e]
      exact g
  · unfold nrm
    split
    · split
      · exact h.2.2.2.1 k p i hk
      · exact Or.inl rfl
    · exact h.2.2.2.1 k p i hk
theorem AM.nrm {Γ : GG} {d k pc : Nat} {ls : LV} {st : List AV} {m : MI} {n : ML} {post : PO} (h : AM Γ d k pc ls st (nrm m) n post) : AM Γ d k pc ls st m n post :=
  fun p e R s mm args below meth c A cells slots Q C H locs lc hW hS hL hV => h p e R s mm args below meth c A cells slots Q C H locs lc (wd_nrm hW) hS hL hV
