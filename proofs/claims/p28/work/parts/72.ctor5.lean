-- THE CONSTRUCTORS: the class itself
def mix (F : List (Nat → Nat)) : Nat → Nat := fun k => (F.getD (k / 32) (fun _ => 0)) (k % 32)
theorem mix_at (F : List (Nat → Nat)) (z k : Nat) (hk : k < 32) : mix F (32 * z + k) = (F.getD z (fun _ => 0)) k := by
  unfold mix
  rw [show (32 * z + k) / 32 = z by omega, show (32 * z + k) % 32 = k by omega]
theorem wE_cgr {C : Nat → ClassId} {h : Nat} {a b : Nat → Nat} (e : ∀ k, 11 ≤ k → k ≤ 18 → a k = b k) : wE C h a = wE C h b := by
  unfold wE
  rw [e 11 (by omega) (by omega), e 12 (by omega) (by omega), e 13 (by omega) (by omega), e 14 (by omega) (by omega), e 15 (by omega) (by omega), e 16 (by omega) (by omega), e 17 (by omega) (by omega), e 18 (by omega) (by omega)]
theorem wP_cgr {C : Nat → ClassId} {h : Nat} {a b : Nat → Nat} (e : ∀ k, 4 ≤ k → k ≤ 18 → a k = b k) : wP C h a = wP C h b := by
  unfold wP
  rw [wE_cgr (fun k h1 h2 => e k (by omega) h2), e 4 (by omega) (by omega), e 5 (by omega) (by omega), e 6 (by omega) (by omega), e 7 (by omega) (by omega), e 8 (by omega) (by omega), e 9 (by omega) (by omega), e 10 (by omega) (by omega)]
def wPz (C : Nat → ClassId) (a : Nat → Nat) (z : Nat) : va_W := wP C (a (32 * z + 3)) (sh a z)
def wEz (C : Nat → ClassId) (a : Nat → Nat) : va_W := wE C (a (32 * 8 + 10)) (sh a 8)
def wN (C : Nat → ClassId) (h : Nat) (a : Nat → Nat) : va_W := (h, .inr (5, [.ref (a 3), .ref (a (32 * 1 + 3)), .ref (a 2), .int 0, .ref (a 19), .ref (a 21), .ref (a (32 * 8 + 10))])) :: (a 2, .inl (C 5, 6, .inr (.inr (.inr (.inr (upQ a 6)))))) :: (wPz C a 7 ++ (wPz C a 6 ++ (wPz C a 5 ++ (wPz C a 4 ++ (wPz C a 3 ++ (wPz C a 2 ++ (wEz C a ++ (wM C (a 21) a ++ (wT C (a 19) a ++ (wPz C a 1 ++ (wPz C a 0 ++ [])))))))))))
theorem asg_3 {q k : Nat} {b : Nat → Nat} (h : k ≠ 3) : asg [(3, q)] b k = b k := by
  show (bif Nat.beq 3 k then q else b k) = b k
  cases hb : Nat.beq 3 k with
  | true =>
    have := Nat.eq_of_beq_eq_true hb
    omega
  | false => rfl
theorem pz_eq {C : Nat → ClassId} {F : List (Nat → Nat)} {z q : Nat} {b g : Nat → Nat} (hz : F.getD z (fun _ => 0) = g) (hq : g 3 = q) (hg : ∀ k, 4 ≤ k → k ≤ 18 → g k = b k) : wPz C (mix F) z = wP C q b := by
  unfold wPz
  rw [mix_at F z 3 (by omega), hz, hq]
  refine wP_cgr (fun k h1 h2 => ?_)
  show mix F (32 * z + k) = b k
  rw [mix_at F z k (by omega), hz]
  exact hg k h1 h2
theorem ez_eq {C : Nat → ClassId} {F : List (Nat → Nat)} {q : Nat} {b g : Nat → Nat} (hz : F.getD 8 (fun _ => 0) = g) (hq : g 10 = q) (hg : ∀ k, 11 ≤ k → k ≤ 18 → g k = b k) : wEz C (mix F) = wE C q b := by
  unfold wEz
  rw [mix_at F 8 10 (by omega), hz, hq]
  refine wE_cgr (fun k h1 h2 => ?_)
  show mix F (32 * 8 + k) = b k
  rw [mix_at F 8 k (by omega), hz]
  exact hg k h1 h2
theorem ez_8 {q : Nat} {b : Nat → Nat} {k : Nat} (h : k ≠ 10) : asg [(10, q)] b k = b k := by
  show (bif Nat.beq 10 k then q else b k) = b k
  cases hb : Nat.beq 10 k with
  | true =>
    have := Nat.eq_of_beq_eq_true hb
    omega
  | false => rfl
/-- the addresses that do not belong to papers 1..7 and the planned edition -/
def g0 (q0 qr qT qM : Nat) (b0 bT bM : Nat → Nat) : Nat → Nat := fun k => if k = 3 then q0 else if k = 2 then qr else if k = 19 then qT else if k = 21 then qM else if k ≤ 18 then b0 k else if k = 20 then bT k else bM k
theorem g0_lo {q0 qr qT qM : Nat} {b0 bT bM : Nat → Nat} {k : Nat} (h1 : 4 ≤ k) (h2 : k ≤ 18) : g0 q0 qr qT qM b0 bT bM k = b0 k := by
  unfold g0
  rw [if_neg (by omega), if_neg (by omega), if_neg (by omega), if_neg (by omega), if_pos (by omega)]
abbrev rm_X5 : Jvm.Room := { frames := 3, cells := 144, slots := 3772, locals := 130 }
theorem i_X5 (l : Launch) (D : va_G) (C : Nat → ClassId) : CI l D C yX5_init cX5_init 2 rm_X5 5 [.null, .null, .null, .int 0, .null, .null, .null] (wN C) 144 3772 := by
  refine ci_of (by decide) rfl rfl (by decide) ?_
  intro p e s m args below meth c A Q h0 ls F hin hl K
  have a0 : ls[0]? = some (.val (.ref h0)) := lv_at hl 0 rfl
  have hsz : ls.size = 2 := hl.1
  refine k_a0 (pc := 0) F a0 (by decide +kernel) ?_
  refine k_super (rest := []) (pc := 1) (x := 1) F (mt1 (i := 18) (by decide +kernel) rfl) hsz (by decide) (by decide) (by decide +kernel) ?_
  refine k_a0 (pc := 4) F a0 (by decide +kernel) ?_
  refine k_mkN (nw := nwP) (pc := 5) (i := 7) (j := 9) (cells := 0) (slots := 0) (X := [_]) F (i_X2 l D C) cl_2 (mt1 (i := 21) (by decide +kernel) rfl) (mt1 (i := 22) (by decide +kernel) rfl) (mt1 (i := 2) (by decide +kernel) rfl) (by decide +kernel) rfl F.2.1.1.1 (mt1 (i := 24) (by decide +kernel) rfl) (mt1 (i := 25) (by decide +kernel) rfl) rfl rfl (by decide +kernel) rfl rfl (by decide) (by decide) (by decide) (by decide) hsz (Nat.le_of_ble_eq_true rfl) (by decide +kernel) (by decide +kernel) (by decide +kernel) (fun q1 b1 => ?_)
  refine k_put (pc := 12) (x := 10) (k := 0) (fs := [.null, .null, .null, .int 0, .null, .null, .null]) F hin cl_5 (by decide +kernel) (by decide) rfl rfl (Nat.le_of_ble_eq_true rfl) (by decide +kernel) ?_
  refine k_a0 (pc := 15) F a0 (by decide +kernel) ?_
  refine k_mkN (nw := nwP) (pc := 16) (i := 7) (j := 9) (cells := 16) (slots := 419) (X := [_]) F (i_X2 l D C) cl_2 (mt1 (i := 21) (by decide +kernel) rfl) (mt1 (i := 22) (by decide +kernel) rfl) (mt1 (i := 2) (by decide +kernel) rfl) (by decide +kernel) rfl F.2.1.1.1 (mt1 (i := 24) (by decide +kernel) rfl) (mt1 (i := 25) (by decide +kernel) rfl) rfl rfl (by decide +kernel) rfl rfl (by decide) (by decide) (by decide) (by decide) hsz (Nat.le_of_ble_eq_true rfl) (by decide +kernel) (by decide +kernel) (by decide +kernel) (fun q2 b2 => ?_)
  refine k_put (pc := 23) (x := 16) (k := 1) (fs := [.ref q1, .null, .null, .int 0, .null, .null, .null]) F hin cl_5 (by decide +kernel) (by decide) rfl rfl (Nat.le_of_ble_eq_true rfl) (by decide +kernel) ?_
  refine k_a0 (pc := 26) F a0 (by decide +kernel) ?_
  refine k_bp (pc := 27) (z := 6) (v := 6) F (by decide +kernel) (by decide) ?_
  refine k_newq (pc := 29) (i := 7) (cells := 32) (slots := 838) (N' := 6) F (mt1 (i := 21) (by decide +kernel) rfl) (by decide) (by decide +kernel) (by decide) (by decide) (by decide) (by decide +kernel) (fun q3 => ?_)
  refine k_put (pc := 32) (x := 19) (k := 2) (fs := [.ref q1, .ref q2, .null, .int 0, .null, .null, .null]) F hin cl_5 (by decide +kernel) (by decide) rfl rfl (Nat.le_of_ble_eq_true rfl) (by decide +kernel) ?_
  refine k_a0 (pc := 35) F a0 (by decide +kernel) ?_
  refine k_ic (pc := 36) (z := 0) (v := 0) F (by decide +kernel) (by decide) ?_
  refine k_put (pc := 37) (x := 23) (k := 3) (fs := [.ref q1, .ref q2, .ref q3, .int 0, .null, .null, .null]) F hin cl_5 (by decide +kernel) (by decide) rfl rfl (Nat.le_of_ble_eq_true rfl) (by decide +kernel) ?_
  refine k_a0 (pc := 40) F a0 (by decide +kernel) ?_
  refine k_mkN (nw := nwT) (pc := 41) (i := 27) (j := 29) (cells := 33) (slots := 844) (X := [_, _]) F (i_X4 l D C) cl_4 (mt1 (i := 146) (by decide +kernel) rfl) (mt1 (i := 147) (by decide +kernel) rfl) (mt1 (i := 5) (by decide +kernel) rfl) (by decide +kernel) rfl F.2.1.1.2 (mt1 (i := 149) (by decide +kernel) rfl) (mt1 (i := 150) (by decide +kernel) rfl) rfl rfl (by decide +kernel) rfl rfl (by decide) (by decide) (by decide) (by decide) hsz (Nat.le_of_ble_eq_true rfl) (by decide +kernel) (by decide +kernel) (by decide +kernel) (fun q4 b4 => ?_)
  refine k_put (pc := 48) (x := 30) (k := 4) (fs := [.ref q1, .ref q2, .ref q3, .int 0, .null, .null, .null]) F hin cl_5 (by decide +kernel) (by decide) rfl rfl (Nat.le_of_ble_eq_true rfl) (by decide +kernel) ?_
  refine k_a0 (pc := 51) F a0 (by decide +kernel) ?_
  refine k_mkN (nw := nwM) (pc := 52) (i := 34) (j := 36) (cells := 35) (slots := 968) (X := [_, _]) F (i_X1 l D C) cl_1 (mt1 (i := 166) (by decide +kernel) rfl) (mt1 (i := 167) (by decide +kernel) rfl) (mt1 (i := 6) (by decide +kernel) rfl) (by decide +kernel) rfl F.2.1.2.1.1 (mt1 (i := 169) (by decide +kernel) rfl) (mt1 (i := 170) (by decide +kernel) rfl) rfl rfl (by decide +kernel) rfl rfl (by decide) (by decide) (by decide) (by decide) hsz (Nat.le_of_ble_eq_true rfl) (by decide +kernel) (by decide +kernel) (by decide +kernel) (fun q5 b5 => ?_)
  refine k_put (pc := 59) (x := 37) (k := 5) (fs := [.ref q1, .ref q2, .ref q3, .int 0, .ref q4, .null, .null]) F hin cl_5 (by decide +kernel) (by decide) rfl rfl (Nat.le_of_ble_eq_true rfl) (by decide +kernel) ?_
  refine k_a0 (pc := 62) F a0 (by decide +kernel) ?_
  refine k_mk (pc := 63) (i := 41) (j := 43) (cells := 39) (slots := 1006) (X := [_, _]) F (i_X0 l D C) cl_0 (mt1 (i := 199) (by decide +kernel) rfl) (mt1 (i := 28) (by decide +kernel) rfl) (mt1 (i := 3) (by decide +kernel) rfl) (by decide +kernel) (mt1 (i := 200) (by decide +kernel) rfl) (mt1 (i := 30) (by decide +kernel) rfl) (mt1 (i := 31) (by decide +kernel) rfl) rfl rfl (by decide +kernel) rfl rfl (by decide) (by decide) (by decide) (by decide) hsz (Nat.le_of_ble_eq_true rfl) (by decide +kernel) (by decide +kernel) (by decide +kernel) (fun q6 b6 => ?_)
  refine k_put (pc := 70) (x := 44) (k := 6) (fs := [.ref q1, .ref q2, .ref q3, .int 0, .ref q4, .ref q5, .null]) F hin cl_5 (by decide +kernel) (by decide) rfl rfl (Nat.le_of_ble_eq_true rfl) (by decide +kernel) ?_
  refine k_ic (pc := 73) (z := 0) (v := 0) F (by decide +kernel) (by decide) ?_
  refine k_ist (pc := 74) (k := 1) (i := 1) (lv' := [(1, .int 0), (0, .ref h0)]) F hl rfl (by decide) rfl (by decide +kernel) (fun ls hl => ?_)
  have a0 : ls[0]? = some (.val (.ref h0)) := lv_at hl 1 rfl
  have hsz : ls.size = 2 := hl.1
  refine k_il (pc := 75) (k := 1) (i := 1) (x := 0) F (lv_at hl 0 rfl) rfl (by decide +kernel) ?_
  refine k_bp (pc := 76) (z := 6) (v := 6) F (by decide +kernel) (by decide) ?_
  refine k_get_f (pc := 78) (off := 22) (tgt := 100) F (by decide) (by decide) (by decide +kernel) ?_
  refine k_a0 (pc := 81) F a0 (by decide +kernel) ?_
  refine k_get (pc := 82) (x := 19) (k := 2) (fs := [.ref q1, .ref q2, .ref q3, .int 0, .ref q4, .ref q5, .ref q6]) F cl_5 (by decide +kernel) (by decide) rfl (by decide +kernel) ?_
  refine k_il (pc := 85) (k := 1) (i := 1) (x := 0) F (lv_at hl 0 rfl) rfl (by decide +kernel) ?_
  refine k_mkN (nw := nwP) (pc := 86) (i := 7) (j := 9) (cells := 48) (slots := 1258) (X := [_, _]) F (i_X2 l D C) cl_2 (mt1 (i := 21) (by decide +kernel) rfl) (mt1 (i := 22) (by decide +kernel) rfl) (mt1 (i := 2) (by decide +kernel) rfl) (by decide +kernel) rfl F.2.1.1.1 (mt1 (i := 24) (by decide +kernel) rfl) (mt1 (i := 25) (by decide +kernel) rfl) rfl rfl (by decide +kernel) rfl rfl (by decide) (by decide) (by decide) (by decide) hsz (Nat.le_of_ble_eq_true rfl) (by decide +kernel) (by decide +kernel) (by decide +kernel) (fun q7 b7 => ?_)
  refine k_asq (pc := 93) (k := 0) F rfl (by decide) (by unfold vp_in; decide) (by decide +kernel) ?_
  refine k_iinc (pc := 94) (i := 1) (k := 0) (z := 1) (x := 0) (v := 1) (lv' := [(1, .int 1), (0, .ref h0)]) F hl rfl (by decide) (by decide) rfl (by decide +kernel) (fun ls hl => ?_)
  have a0 : ls[0]? = some (.val (.ref h0)) := lv_at hl 1 rfl
  have hsz : ls.size = 2 := hl.1
  refine k_goto (pc := 97) (off := -22) (tgt := 75) F (by decide) (by decide +kernel) ?_
  refine k_il (pc := 75) (k := 1) (i := 1) (x := 1) F (lv_at hl 0 rfl) rfl (by decide +kernel) ?_
  refine k_bp (pc := 76) (z := 6) (v := 6) F (by decide +kernel) (by decide) ?_
  refine k_get_f (pc := 78) (off := 22) (tgt := 100) F (by decide) (by decide) (by decide +kernel) ?_
  refine k_a0 (pc := 81) F a0 (by decide +kernel) ?_
  refine k_get (pc := 82) (x := 19) (k := 2) (fs := [.ref q1, .ref q2, .ref q3, .int 0, .ref q4, .ref q5, .ref q6]) F cl_5 (by decide +kernel) (by decide) rfl (by decide +kernel) ?_
  refine k_il (pc := 85) (k := 1) (i := 1) (x := 1) F (lv_at hl 0 rfl) rfl (by decide +kernel) ?_
  refine k_mkN (nw := nwP) (pc := 86) (i := 7) (j := 9) (cells := 64) (slots := 1677) (X := [_, _]) F (i_X2 l D C) cl_2 (mt1 (i := 21) (by decide +kernel) rfl) (mt1 (i := 22) (by decide +kernel) rfl) (mt1 (i := 2) (by decide +kernel) rfl) (by decide +kernel) rfl F.2.1.1.1 (mt1 (i := 24) (by decide +kernel) rfl) (mt1 (i := 25) (by decide +kernel) rfl) rfl rfl (by decide +kernel) rfl rfl (by decide) (by decide) (by decide) (by decide) hsz (Nat.le_of_ble_eq_true rfl) (by decide +kernel) (by decide +kernel) (by decide +kernel) (fun q8 b8 => ?_)
  refine k_asq (pc := 93) (k := 1) F rfl (by decide) (by unfold vp_in; decide) (by decide +kernel) ?_
  refine k_iinc (pc := 94) (i := 1) (k := 0) (z := 1) (x := 1) (v := 2) (lv' := [(1, .int 2), (0, .ref h0)]) F hl rfl (by decide) (by decide) rfl (by decide +kernel) (fun ls hl => ?_)
  have a0 : ls[0]? = some (.val (.ref h0)) := lv_at hl 1 rfl
  have hsz : ls.size = 2 := hl.1
  refine k_goto (pc := 97) (off := -22) (tgt := 75) F (by decide) (by decide +kernel) ?_
  refine k_il (pc := 75) (k := 1) (i := 1) (x := 2) F (lv_at hl 0 rfl) rfl (by decide +kernel) ?_
  refine k_bp (pc := 76) (z := 6) (v := 6) F (by decide +kernel) (by decide) ?_
  refine k_get_f (pc := 78) (off := 22) (tgt := 100) F (by decide) (by decide) (by decide +kernel) ?_
  refine k_a0 (pc := 81) F a0 (by decide +kernel) ?_
  refine k_get (pc := 82) (x := 19) (k := 2) (fs := [.ref q1, .ref q2, .ref q3, .int 0, .ref q4, .ref q5, .ref q6]) F cl_5 (by decide +kernel) (by decide) rfl (by decide +kernel) ?_
  refine k_il (pc := 85) (k := 1) (i := 1) (x := 2) F (lv_at hl 0 rfl) rfl (by decide +kernel) ?_
  refine k_mkN (nw := nwP) (pc := 86) (i := 7) (j := 9) (cells := 80) (slots := 2096) (X := [_, _]) F (i_X2 l D C) cl_2 (mt1 (i := 21) (by decide +kernel) rfl) (mt1 (i := 22) (by decide +kernel) rfl) (mt1 (i := 2) (by decide +kernel) rfl) (by decide +kernel) rfl F.2.1.1.1 (mt1 (i := 24) (by decide +kernel) rfl) (mt1 (i := 25) (by decide +kernel) rfl) rfl rfl (by decide +kernel) rfl rfl (by decide) (by decide) (by decide) (by decide) hsz (Nat.le_of_ble_eq_true rfl) (by decide +kernel) (by decide +kernel) (by decide +kernel) (fun q9 b9 => ?_)
  refine k_asq (pc := 93) (k := 2) F rfl (by decide) (by unfold vp_in; decide) (by decide +kernel) ?_
  refine k_iinc (pc := 94) (i := 1) (k := 0) (z := 1) (x := 2) (v := 3) (lv' := [(1, .int 3), (0, .ref h0)]) F hl rfl (by decide) (by decide) rfl (by decide +kernel) (fun ls hl => ?_)
  have a0 : ls[0]? = some (.val (.ref h0)) := lv_at hl 1 rfl
  have hsz : ls.size = 2 := hl.1
  refine k_goto (pc := 97) (off := -22) (tgt := 75) F (by decide) (by decide +kernel) ?_
  refine k_il (pc := 75) (k := 1) (i := 1) (x := 3) F (lv_at hl 0 rfl) rfl (by decide +kernel) ?_
  refine k_bp (pc := 76) (z := 6) (v := 6) F (by decide +kernel) (by decide) ?_
  refine k_get_f (pc := 78) (off := 22) (tgt := 100) F (by decide) (by decide) (by decide +kernel) ?_
  refine k_a0 (pc := 81) F a0 (by decide +kernel) ?_
  refine k_get (pc := 82) (x := 19) (k := 2) (fs := [.ref q1, .ref q2, .ref q3, .int 0, .ref q4, .ref q5, .ref q6]) F cl_5 (by decide +kernel) (by decide) rfl (by decide +kernel) ?_
  refine k_il (pc := 85) (k := 1) (i := 1) (x := 3) F (lv_at hl 0 rfl) rfl (by decide +kernel) ?_
  refine k_mkN (nw := nwP) (pc := 86) (i := 7) (j := 9) (cells := 96) (slots := 2515) (X := [_, _]) F (i_X2 l D C) cl_2 (mt1 (i := 21) (by decide +kernel) rfl) (mt1 (i := 22) (by decide +kernel) rfl) (mt1 (i := 2) (by decide +kernel) rfl) (by decide +kernel) rfl F.2.1.1.1 (mt1 (i := 24) (by decide +kernel) rfl) (mt1 (i := 25) (by decide +kernel) rfl) rfl rfl (by decide +kernel) rfl rfl (by decide) (by decide) (by decide) (by decide) hsz (Nat.le_of_ble_eq_true rfl) (by decide +kernel) (by decide +kernel) (by decide +kernel) (fun q10 b10 => ?_)
  refine k_asq (pc := 93) (k := 3) F rfl (by decide) (by unfold vp_in; decide) (by decide +kernel) ?_
  refine k_iinc (pc := 94) (i := 1) (k := 0) (z := 1) (x := 3) (v := 4) (lv' := [(1, .int 4), (0, .ref h0)]) F hl rfl (by decide) (by decide) rfl (by decide +kernel) (fun ls hl => ?_)
  have a0 : ls[0]? = some (.val (.ref h0)) := lv_at hl 1 rfl
  have hsz : ls.size = 2 := hl.1
  refine k_goto (pc := 97) (off := -22) (tgt := 75) F (by decide) (by decide +kernel) ?_
  refine k_il (pc := 75) (k := 1) (i := 1) (x := 4) F (lv_at hl 0 rfl) rfl (by decide +kernel) ?_
  refine k_bp (pc := 76) (z := 6) (v := 6) F (by decide +kernel) (by decide) ?_
  refine k_get_f (pc := 78) (off := 22) (tgt := 100) F (by decide) (by decide) (by decide +kernel) ?_
  refine k_a0 (pc := 81) F a0 (by decide +kernel) ?_
  refine k_get (pc := 82) (x := 19) (k := 2) (fs := [.ref q1, .ref q2, .ref q3, .int 0, .ref q4, .ref q5, .ref q6]) F cl_5 (by decide +kernel) (by decide) rfl (by decide +kernel) ?_
  refine k_il (pc := 85) (k := 1) (i := 1) (x := 4) F (lv_at hl 0 rfl) rfl (by decide +kernel) ?_
  refine k_mkN (nw := nwP) (pc := 86) (i := 7) (j := 9) (cells := 112) (slots := 2934) (X := [_, _]) F (i_X2 l D C) cl_2 (mt1 (i := 21) (by decide +kernel) rfl) (mt1 (i := 22) (by decide +kernel) rfl) (mt1 (i := 2) (by decide +kernel) rfl) (by decide +kernel) rfl F.2.1.1.1 (mt1 (i := 24) (by decide +kernel) rfl) (mt1 (i := 25) (by decide +kernel) rfl) rfl rfl (by decide +kernel) rfl rfl (by decide) (by decide) (by decide) (by decide) hsz (Nat.le_of_ble_eq_true rfl) (by decide +kernel) (by decide +kernel) (by decide +kernel) (fun q11 b11 => ?_)
  refine k_asq (pc := 93) (k := 4) F rfl (by decide) (by unfold vp_in; decide) (by decide +kernel) ?_
  refine k_iinc (pc := 94) (i := 1) (k := 0) (z := 1) (x := 4) (v := 5) (lv' := [(1, .int 5), (0, .ref h0)]) F hl rfl (by decide) (by decide) rfl (by decide +kernel) (fun ls hl => ?_)
  have a0 : ls[0]? = some (.val (.ref h0)) := lv_at hl 1 rfl
  have hsz : ls.size = 2 := hl.1
  refine k_goto (pc := 97) (off := -22) (tgt := 75) F (by decide) (by decide +kernel) ?_
  refine k_il (pc := 75) (k := 1) (i := 1) (x := 5) F (lv_at hl 0 rfl) rfl (by decide +kernel) ?_
  refine k_bp (pc := 76) (z := 6) (v := 6) F (by decide +kernel) (by decide) ?_
  refine k_get_f (pc := 78) (off := 22) (tgt := 100) F (by decide) (by decide) (by decide +kernel) ?_
  refine k_a0 (pc := 81) F a0 (by decide +kernel) ?_
  refine k_get (pc := 82) (x := 19) (k := 2) (fs := [.ref q1, .ref q2, .ref q3, .int 0, .ref q4, .ref q5, .ref q6]) F cl_5 (by decide +kernel) (by decide) rfl (by decide +kernel) ?_
  refine k_il (pc := 85) (k := 1) (i := 1) (x := 5) F (lv_at hl 0 rfl) rfl (by decide +kernel) ?_
  refine k_mkN (nw := nwP) (pc := 86) (i := 7) (j := 9) (cells := 128) (slots := 3353) (X := [_, _]) F (i_X2 l D C) cl_2 (mt1 (i := 21) (by decide +kernel) rfl) (mt1 (i := 22) (by decide +kernel) rfl) (mt1 (i := 2) (by decide +kernel) rfl) (by decide +kernel) rfl F.2.1.1.1 (mt1 (i := 24) (by decide +kernel) rfl) (mt1 (i := 25) (by decide +kernel) rfl) rfl rfl (by decide +kernel) rfl rfl (by decide) (by decide) (by decide) (by decide) hsz (Nat.le_of_ble_eq_true rfl) (by decide +kernel) (by decide +kernel) (by decide +kernel) (fun q12 b12 => ?_)
  refine k_asq (pc := 93) (k := 5) F rfl (by decide) (by unfold vp_in; decide) (by decide +kernel) ?_
  refine k_iinc (pc := 94) (i := 1) (k := 0) (z := 1) (x := 5) (v := 6) (lv' := [(1, .int 6), (0, .ref h0)]) F hl rfl (by decide) (by decide) rfl (by decide +kernel) (fun ls hl => ?_)
  have a0 : ls[0]? = some (.val (.ref h0)) := lv_at hl 1 rfl
  have hsz : ls.size = 2 := hl.1
  refine k_goto (pc := 97) (off := -22) (tgt := 75) F (by decide) (by decide +kernel) ?_
  refine k_il (pc := 75) (k := 1) (i := 1) (x := 6) F (lv_at hl 0 rfl) rfl (by decide +kernel) ?_
  refine k_bp (pc := 76) (z := 6) (v := 6) F (by decide +kernel) (by decide) ?_
  refine k_get_t (pc := 78) (off := 22) (tgt := 100) F (by decide) (by decide) (by decide +kernel) ?_
  have k := K (mix [g0 q1 q3 q4 q5 b1 b4 b5, asg [(3, q2)] b2, asg [(3, q7)] b7, asg [(3, q8)] b8, asg [(3, q9)] b9, asg [(3, q10)] b10, asg [(3, q11)] b11, asg [(3, q12)] b12, asg [(10, q6)] b6]) ls 100 (by decide +kernel)
  generalize hF : [g0 q1 q3 q4 q5 b1 b4 b5, asg [(3, q2)] b2, asg [(3, q7)] b7, asg [(3, q8)] b8, asg [(3, q9)] b9, asg [(3, q10)] b10, asg [(3, q11)] b11, asg [(3, q12)] b12, asg [(10, q6)] b6] = FF at k
  have e0 : wPz C (mix FF) 0 = wP C q1 b1 := pz_eq (g := g0 q1 q3 q4 q5 b1 b4 b5) (by rw [← hF]; rfl) rfl (fun k h1 h2 => g0_lo h1 h2)
  have e1 : wPz C (mix FF) 1 = wP C q2 b2 := pz_eq (g := asg [(3, q2)] b2) (by rw [← hF]; rfl) rfl (fun k h1 h2 => asg_3 (by omega))
  have e2 : wPz C (mix FF) 2 = wP C q7 b7 := pz_eq (g := asg [(3, q7)] b7) (by rw [← hF]; rfl) rfl (fun k h1 h2 => asg_3 (by omega))
  have e3 : wPz C (mix FF) 3 = wP C q8 b8 := pz_eq (g := asg [(3, q8)] b8) (by rw [← hF]; rfl) rfl (fun k h1 h2 => asg_3 (by omega))
  have e4 : wPz C (mix FF) 4 = wP C q9 b9 := pz_eq (g := asg [(3, q9)] b9) (by rw [← hF]; rfl) rfl (fun k h1 h2 => asg_3 (by omega))
  have e5 : wPz C (mix FF) 5 = wP C q10 b10 := pz_eq (g := asg [(3, q10)] b10) (by rw [← hF]; rfl) rfl (fun k h1 h2 => asg_3 (by omega))
  have e6 : wPz C (mix FF) 6 = wP C q11 b11 := pz_eq (g := asg [(3, q11)] b11) (by rw [← hF]; rfl) rfl (fun k h1 h2 => asg_3 (by omega))
  have e7 : wPz C (mix FF) 7 = wP C q12 b12 := pz_eq (g := asg [(3, q12)] b12) (by rw [← hF]; rfl) rfl (fun k h1 h2 => asg_3 (by omega))
  have eE : wEz C (mix FF) = wE C q6 b6 := ez_eq (g := asg [(10, q6)] b6) (by rw [← hF]; rfl) rfl (fun k h1 h2 => ez_8 (by omega))
  unfold wN at k
  rw [e0, e1, e2, e3, e4, e5, e6, e7, eE, ← hF] at k
  exact k
