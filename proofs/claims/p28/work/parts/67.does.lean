-- THE LAW'S CHANGE OF A TURN
theorem low_bd (x : Int) : 0 ≤ iop (· &&& ·) x 2147483647 ∧ iop (· &&& ·) x 2147483647 ≤ 2147483647 := by
  have h : (Int32.ofInt x &&& Int32.ofInt 2147483647).toBitVec.msb = false := by
    rw [Int32.toBitVec_and, BitVec.msb_and]
    have : (Int32.ofInt 2147483647).toBitVec.msb = false := by decide
    rw [this, Bool.and_false]
  have e : iop (· &&& ·) x 2147483647 = ((Int32.ofInt x &&& Int32.ofInt 2147483647).toBitVec.toNat : Int) := by
    show (Int32.ofInt x &&& Int32.ofInt 2147483647).toBitVec.toInt = _
    rw [BitVec.toInt_eq_msb_cond, h]
    rfl
  have b := iop_bd (· &&& ·) x 2147483647
  rw [e]
  rw [e] at b
  exact ⟨by omega, b.2⟩
theorem a_low {Γ : GG} {d : Nat} {m : MI} {n : ML} {post : PO} {x z : Int} (hz : 0 < z ∧ z ≤ 2147483647) (K : ∀ r, 0 ≤ r → r < z → post (some (vi r)) m n) : CM Γ d 75 [vi x, vi z] m n post := by
  have b := low_bd x
  exact e75 (b75_0 ⟨b.1, b.2, hz.1, hz.2⟩ (K _ (Int.emod_nonneg _ (by omega)) (Int.emod_lt_of_pos _ hz.1)))
set_option maxHeartbeats 4000000 in
theorem op_does {Γ : GG} {d : Nat} {m : MI} {n : ML} {t v : Int} (hI : Inv t m) : Opp Γ (d + 8) 77 [vr 1 0, vi v] m n t := by
  refine e77 (b77_0 (a_low ⟨by omega, by omega⟩ (fun r r0 r1 => ?_)))
  have mk : ∀ u, AM Γ (d + 8) 77 244 [some (vr 1 0), some (vi v), some (vi u)] [] m n (fun r m' _ => ∃ x, InR x ∧ r = some (vi x) ∧ ((x < 0 ∧ m' = m) ∨ (0 ≤ x ∧ Step t m m'))) := fun u =>
    b77_244 (CM.mono (op_make (d := d) hI) (fun r m' n' h => by obtain ⟨x, hx, rfl, h⟩ := h; exact b77_248 ⟨x, hx, rfl, h⟩))
  have ad : ∀ u, AM Γ (d + 8) 77 129 [some (vr 1 0), some (vi v), some (vi u)] [] m n (fun r m' _ => ∃ x, InR x ∧ r = some (vi x) ∧ ((x < 0 ∧ m' = m) ∨ (0 ≤ x ∧ Step t m m'))) := fun u =>
    b77_129 (a_low ⟨by omega, by omega⟩ (fun p p0 p1 => b77_138 (a_low ⟨by omega, by omega⟩ (fun q q0 q1 => b77_146 (a_low ⟨by omega, by omega⟩ (fun s s0 s1 => b77_156 (CM.mono (op_addStory (d := d + 2) hI (ir (by omega) (by omega)) (ir (by omega) (by omega)) (ir (by omega) (by omega))) (fun r m' n' h => by obtain ⟨x, hx, rfl, h⟩ := h; exact b77_160 ⟨x, hx, rfl, h⟩))))))))
  have pa : ∀ u, 0 ≤ u → u < 7 → AM Γ (d + 8) 77 192 [some (vr 1 0), some (vi v), some (vi u)] [] m n (fun r m' _ => ∃ x, InR x ∧ r = some (vi x) ∧ ((x < 0 ∧ m' = m) ∨ (0 ≤ x ∧ Step t m m'))) := fun u u0 u1 =>
    b77_192 (a_low ⟨by omega, by omega⟩ (fun p p0 p1 => b77_204 (CM.mono (op_addParagraph (d := d + 2) hI (ir (by omega) (by omega)) (ir (by omega) (by omega))) (fun r m' n' h => by obtain ⟨x, hx, rfl, h⟩ := h; exact b77_208 ⟨x, hx, rfl, h⟩))))
  refine b77_8 (iop_bd _ _ _) (fun _ => mk r) (fun _ => ?_) (fun _ => ad r) (fun _ => ad r) (fun _ => ad r) (fun _ => ?_) (fun _ => ?_) (fun _ => pa r r0 r1) (fun _ => pa r r0 r1) (fun _ => pa r r0 r1) (fun _ => ?_) (fun _ => ?_) (fun _ => ?_)
  · refine b77_76 (iop_bd _ _ _) (fun _ => ?_) (fun _ => ?_)
    · exact b77_124 (CM.mono (op_make (d := d) hI) (fun r m' n' h => by obtain ⟨x, hx, rfl, h⟩ := h; exact b77_128 ⟨x, hx, rfl, h⟩))
    · exact b77_85 (a_low ⟨by omega, by omega⟩ (fun p p0 p1 => b77_95 (a_low ⟨by omega, by omega⟩ (fun q q0 q1 => b77_105 (a_low ⟨by omega, by omega⟩ (fun s s0 s1 => b77_117 (CM.mono (op_setPages (d := d + 2) hI (ir (by omega) (by omega)) (ir (by omega) (by omega)) (ir (by omega) (by omega))) (fun r m' n' h => by obtain ⟨x, hx, rfl, h⟩ := h; exact b77_121 (b77_128 ⟨x, hx, rfl, h⟩)))))))))
  · exact b77_161 (a_low ⟨by omega, by omega⟩ (fun p p0 p1 => b77_173 (CM.mono (op_setRank (d := d + 2) hI (ir (by omega) (by omega)) (ir (by omega) (by omega))) (fun r m' n' h => by obtain ⟨x, hx, rfl, h⟩ := h; exact b77_177 ⟨x, hx, rfl, h⟩))))
  · exact b77_178 (a_low ⟨by omega, by omega⟩ (fun p p0 p1 => b77_188 (CM.mono (op_setHome (d := d + 2) hI (ir (by omega) (by omega)) (ir (by omega) (by omega))) (fun r m' n' h => by obtain ⟨x, hx, rfl, h⟩ := h; exact b77_191 ⟨x, hx, rfl, h⟩))))
  · exact b77_209 (a_low ⟨by omega, by omega⟩ (fun p p0 p1 => b77_219 (a_low ⟨by omega, by omega⟩ (fun q q0 q1 => b77_228 (CM.mono (op_setParagraph (d := d + 2) hI (ir (by omega) (by omega)) (ir (by omega) (by omega)) (ir (by omega) (by omega))) (fun r m' n' h => by obtain ⟨x, hx, rfl, h⟩ := h; exact b77_231 ⟨x, hx, rfl, h⟩))))))
  · exact b77_232 (CM.mono (op_kill (d := d + 2) hI (ir (by omega) (by omega))) (fun r m' n' h => by obtain ⟨x, hx, rfl, h⟩ := h; exact b77_237 ⟨x, hx, rfl, h⟩))
  · exact b77_238 (CM.mono (op_revive (d := d + 2) hI (ir (by omega) (by omega))) (fun r m' n' h => by obtain ⟨x, hx, rfl, h⟩ := h; exact b77_243 ⟨x, hx, rfl, h⟩))
