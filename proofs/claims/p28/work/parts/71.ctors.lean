-- THE CONSTRUCTORS: their contracts
def asg : List (Nat × Nat) → (Nat → Nat) → Nat → Nat
  | [], b, k => b k
  | q :: t, b, k => bif Nat.beq q.1 k then q.2 else asg t b k
def ri (C : Nat → ClassId) (i n : Nat) (v : Int32) (a : Nat) : Nat × va_E := (a, .inl (C i, n, .inl (fun _ => v)))
def rl (C : Nat → ClassId) (n : Nat) (a : Nat) : Nat × va_E := (a, .inl (C 4, n, .inr (.inl (fun _ => 0))))
def wE (C : Nat → ClassId) (h : Nat) (a : Nat → Nat) : va_W := (h, .inr (0, [.int 0, .int 0, .int 0, .int 0, .ref (a 11), .ref (a 12), .ref (a 13), .ref (a 14), .ref (a 15), .ref (a 16), .ref (a 17), .ref (a 18)])) :: [ri C 1 36 0 (a 18), ri C 1 36 0 (a 17), ri C 1 36 0 (a 16), ri C 1 36 0 (a 15), ri C 1 36 0 (a 14), ri C 1 36 0 (a 13), ri C 2 12 0 (a 12), ri C 1 12 (-1) (a 11)]
def wP (C : Nat → ClassId) (h : Nat) (a : Nat → Nat) : va_W := (h, .inr (2, [.int 3, .int 2, .int 30, .int 0, .ref (a 4), .ref (a 5), .ref (a 6), .ref (a 7), .ref (a 8), .ref (a 9), .ref (a 10)])) :: (wE C (a 10) a ++ [ri C 2 12 0 (a 9), ri C 2 12 0 (a 8), ri C 1 96 0 (a 7), ri C 1 12 0 (a 6), ri C 1 12 0 (a 5), ri C 1 12 0 (a 4)])
def wS (C : Nat → ClassId) (h : Nat) (a : Nat → Nat) : va_W := (h, .inr (3, [.int 0, .int 0, .long 0, .ref (a 23)])) :: [rl C 20 (a 23)]
def wM (C : Nat → ClassId) (h : Nat) (a : Nat → Nat) : va_W := (h, .inr (1, [.ref (a 22), .ref (a 24)])) :: ri C 1 12 0 (a 24) :: (wS C (a 22) a ++ [])
def wT (C : Nat → ClassId) (h : Nat) (a : Nat → Nat) : va_W := (h, .inr (4, [.int 0, .ref (a 20), .int 0, .int (-1)])) :: [ri C 1 120 0 (a 20)]
def sh (a : Nat → Nat) (z : Nat) : Nat → Nat := fun k => a (32 * z + k)
def wPs (C : Nat → ClassId) (a : Nat → Nat) : Nat → va_W
  | 0 => []
  | z + 1 => wP C (a (32 * z + 3)) (sh a z) ++ wPs C a z
def upQ (a : Nat → Nat) : Nat → Nat → Option Nat
  | 0 => fun _ => none
  | k + 1 => va_up (upQ a k) k (some (a (32 * (k + 2) + 3)))
abbrev rm_X0 : Jvm.Room := { frames := 1, cells := 8, slots := 240, locals := 40 }
theorem i_X0 (l : Launch) (D : va_G) (C : Nat → ClassId) : CI l D C yX0_init cX0_init 1 rm_X0 0 [.int 0, .int 0, .int 0, .int 0, .null, .null, .null, .null, .null, .null, .null, .null] (wE C) 8 240 := by
  refine ci_of (by decide) rfl rfl (by decide) ?_
  intro p e s m args below meth c A Q h0 ls F hin hl K
  have a0 : ls[0]? = some (.val (.ref h0)) := lv_at hl 0 rfl
  have hsz : ls.size = 1 := hl.1
  refine k_a0 (pc := 0) F a0 (by decide +kernel) ?_
  refine k_super (rest := []) (pc := 1) (x := 3) F (mt1 (i := 32) (by decide +kernel) rfl) hsz (by decide) (by decide) (by decide +kernel) ?_
  refine k_a0 (pc := 4) F a0 (by decide +kernel) ?_
  refine k_ic (pc := 5) (z := 0) (v := 0) F (by decide +kernel) (by decide) ?_
  refine k_put (pc := 6) (x := 9) (k := 0) (fs := [.int 0, .int 0, .int 0, .int 0, .null, .null, .null, .null, .null, .null, .null, .null]) F hin cl_0 (by decide +kernel) (by decide) rfl rfl (Nat.le_of_ble_eq_true rfl) (by decide +kernel) ?_
  refine k_a0 (pc := 9) F a0 (by decide +kernel) ?_
  refine k_ic (pc := 10) (z := 0) (v := 0) F (by decide +kernel) (by decide) ?_
  refine k_put (pc := 11) (x := 15) (k := 1) (fs := [.int 0, .int 0, .int 0, .int 0, .null, .null, .null, .null, .null, .null, .null, .null]) F hin cl_0 (by decide +kernel) (by decide) rfl rfl (Nat.le_of_ble_eq_true rfl) (by decide +kernel) ?_
  refine k_a0 (pc := 14) F a0 (by decide +kernel) ?_
  refine k_ic (pc := 15) (z := 0) (v := 0) F (by decide +kernel) (by decide) ?_
  refine k_put (pc := 16) (x := 18) (k := 2) (fs := [.int 0, .int 0, .int 0, .int 0, .null, .null, .null, .null, .null, .null, .null, .null]) F hin cl_0 (by decide +kernel) (by decide) rfl rfl (Nat.le_of_ble_eq_true rfl) (by decide +kernel) ?_
  refine k_a0 (pc := 19) F a0 (by decide +kernel) ?_
  refine k_ic (pc := 20) (z := 0) (v := 0) F (by decide +kernel) (by decide) ?_
  refine k_put (pc := 21) (x := 21) (k := 3) (fs := [.int 0, .int 0, .int 0, .int 0, .null, .null, .null, .null, .null, .null, .null, .null]) F hin cl_0 (by decide +kernel) (by decide) rfl rfl (Nat.le_of_ble_eq_true rfl) (by decide +kernel) ?_
  refine k_a0 (pc := 24) F a0 (by decide +kernel) ?_
  refine k_bp (pc := 25) (z := 12) (v := 12) F (by decide +kernel) (by decide) ?_
  refine k_newa (pc := 27) (cells := 0) (slots := 0) (N' := 12) (atype := .int) (j := 0) (ty := .int) (a0 := (12, .inl (fun _ => 0))) F (mt1 (i := 86) (by decide +kernel) rfl) rfl rfl (fun _ => rfl) (by decide) (by decide +kernel) (by decide) (by decide) (by decide) (by decide +kernel) (fun q1 => ?_)
  refine k_put (pc := 29) (x := 24) (k := 4) (fs := [.int 0, .int 0, .int 0, .int 0, .null, .null, .null, .null, .null, .null, .null, .null]) F hin cl_0 (by decide +kernel) (by decide) rfl rfl (Nat.le_of_ble_eq_true rfl) (by decide +kernel) ?_
  refine k_a0 (pc := 32) F a0 (by decide +kernel) ?_
  refine k_bp (pc := 33) (z := 12) (v := 12) F (by decide +kernel) (by decide) ?_
  refine k_newa (pc := 35) (cells := 1) (slots := 12) (N' := 12) (atype := .boolean) (j := 1) (ty := .boolean) (a0 := (12, .inl (fun _ => 0))) F (mt1 (i := 87) (by decide +kernel) rfl) rfl rfl (fun _ => rfl) (by decide) (by decide +kernel) (by decide) (by decide) (by decide) (by decide +kernel) (fun q2 => ?_)
  refine k_put (pc := 37) (x := 28) (k := 5) (fs := [.int 0, .int 0, .int 0, .int 0, .ref q1, .null, .null, .null, .null, .null, .null, .null]) F hin cl_0 (by decide +kernel) (by decide) rfl rfl (Nat.le_of_ble_eq_true rfl) (by decide +kernel) ?_
  refine k_a0 (pc := 40) F a0 (by decide +kernel) ?_
  refine k_bp (pc := 41) (z := 36) (v := 36) F (by decide +kernel) (by decide) ?_
  refine k_newa (pc := 43) (cells := 2) (slots := 24) (N' := 36) (atype := .int) (j := 0) (ty := .int) (a0 := (36, .inl (fun _ => 0))) F (mt1 (i := 86) (by decide +kernel) rfl) rfl rfl (fun _ => rfl) (by decide) (by decide +kernel) (by decide) (by decide) (by decide) (by decide +kernel) (fun q3 => ?_)
  refine k_put (pc := 45) (x := 32) (k := 6) (fs := [.int 0, .int 0, .int 0, .int 0, .ref q1, .ref q2, .null, .null, .null, .null, .null, .null]) F hin cl_0 (by decide +kernel) (by decide) rfl rfl (Nat.le_of_ble_eq_true rfl) (by decide +kernel) ?_
  refine k_a0 (pc := 48) F a0 (by decide +kernel) ?_
  refine k_bp (pc := 49) (z := 36) (v := 36) F (by decide +kernel) (by decide) ?_
  refine k_newa (pc := 51) (cells := 3) (slots := 60) (N' := 36) (atype := .int) (j := 0) (ty := .int) (a0 := (36, .inl (fun _ => 0))) F (mt1 (i := 86) (by decide +kernel) rfl) rfl rfl (fun _ => rfl) (by decide) (by decide +kernel) (by decide) (by decide) (by decide) (by decide +kernel) (fun q4 => ?_)
  refine k_put (pc := 53) (x := 35) (k := 7) (fs := [.int 0, .int 0, .int 0, .int 0, .ref q1, .ref q2, .ref q3, .null, .null, .null, .null, .null]) F hin cl_0 (by decide +kernel) (by decide) rfl rfl (Nat.le_of_ble_eq_true rfl) (by decide +kernel) ?_
  refine k_a0 (pc := 56) F a0 (by decide +kernel) ?_
  refine k_bp (pc := 57) (z := 36) (v := 36) F (by decide +kernel) (by decide) ?_
  refine k_newa (pc := 59) (cells := 4) (slots := 96) (N' := 36) (atype := .int) (j := 0) (ty := .int) (a0 := (36, .inl (fun _ => 0))) F (mt1 (i := 86) (by decide +kernel) rfl) rfl rfl (fun _ => rfl) (by decide) (by decide +kernel) (by decide) (by decide) (by decide) (by decide +kernel) (fun q5 => ?_)
  refine k_put (pc := 61) (x := 38) (k := 8) (fs := [.int 0, .int 0, .int 0, .int 0, .ref q1, .ref q2, .ref q3, .ref q4, .null, .null, .null, .null]) F hin cl_0 (by decide +kernel) (by decide) rfl rfl (Nat.le_of_ble_eq_true rfl) (by decide +kernel) ?_
  refine k_a0 (pc := 64) F a0 (by decide +kernel) ?_
  refine k_bp (pc := 65) (z := 36) (v := 36) F (by decide +kernel) (by decide) ?_
  refine k_newa (pc := 67) (cells := 5) (slots := 132) (N' := 36) (atype := .int) (j := 0) (ty := .int) (a0 := (36, .inl (fun _ => 0))) F (mt1 (i := 86) (by decide +kernel) rfl) rfl rfl (fun _ => rfl) (by decide) (by decide +kernel) (by decide) (by decide) (by decide) (by decide +kernel) (fun q6 => ?_)
  refine k_put (pc := 69) (x := 41) (k := 9) (fs := [.int 0, .int 0, .int 0, .int 0, .ref q1, .ref q2, .ref q3, .ref q4, .ref q5, .null, .null, .null]) F hin cl_0 (by decide +kernel) (by decide) rfl rfl (Nat.le_of_ble_eq_true rfl) (by decide +kernel) ?_
  refine k_a0 (pc := 72) F a0 (by decide +kernel) ?_
  refine k_bp (pc := 73) (z := 36) (v := 36) F (by decide +kernel) (by decide) ?_
  refine k_newa (pc := 75) (cells := 6) (slots := 168) (N' := 36) (atype := .int) (j := 0) (ty := .int) (a0 := (36, .inl (fun _ => 0))) F (mt1 (i := 86) (by decide +kernel) rfl) rfl rfl (fun _ => rfl) (by decide) (by decide +kernel) (by decide) (by decide) (by decide) (by decide +kernel) (fun q7 => ?_)
  refine k_put (pc := 77) (x := 44) (k := 10) (fs := [.int 0, .int 0, .int 0, .int 0, .ref q1, .ref q2, .ref q3, .ref q4, .ref q5, .ref q6, .null, .null]) F hin cl_0 (by decide +kernel) (by decide) rfl rfl (Nat.le_of_ble_eq_true rfl) (by decide +kernel) ?_
  refine k_a0 (pc := 80) F a0 (by decide +kernel) ?_
  refine k_bp (pc := 81) (z := 36) (v := 36) F (by decide +kernel) (by decide) ?_
  refine k_newa (pc := 83) (cells := 7) (slots := 204) (N' := 36) (atype := .int) (j := 0) (ty := .int) (a0 := (36, .inl (fun _ => 0))) F (mt1 (i := 86) (by decide +kernel) rfl) rfl rfl (fun _ => rfl) (by decide) (by decide +kernel) (by decide) (by decide) (by decide) (by decide +kernel) (fun q8 => ?_)
  refine k_put (pc := 85) (x := 47) (k := 11) (fs := [.int 0, .int 0, .int 0, .int 0, .ref q1, .ref q2, .ref q3, .ref q4, .ref q5, .ref q6, .ref q7, .null]) F hin cl_0 (by decide +kernel) (by decide) rfl rfl (Nat.le_of_ble_eq_true rfl) (by decide +kernel) ?_
  refine k_a0 (pc := 88) F a0 (by decide +kernel) ?_
  refine k_get (pc := 89) (x := 24) (k := 4) (fs := [.int 0, .int 0, .int 0, .int 0, .ref q1, .ref q2, .ref q3, .ref q4, .ref q5, .ref q6, .ref q7, .ref q8]) F cl_0 (by decide +kernel) (by decide) rfl (by decide +kernel) ?_
  refine k_ic (pc := 92) (z := -1) (v := -1) F (by decide +kernel) (by decide) ?_
  refine Wc.perm (List.perm_append_comm (l₁ := [(h0, Sum.inr (0, [Value.int 0, Value.int 0, Value.int 0, Value.int 0, Value.ref q1, Value.ref q2, Value.ref q3, Value.ref q4, Value.ref q5, Value.ref q6, Value.ref q7, Value.ref q8])), ri C 1 36 0 q8, ri C 1 36 0 q7, ri C 1 36 0 q6, ri C 1 36 0 q5, ri C 1 36 0 q4, ri C 1 36 0 q3, ri C 2 12 0 q2]) (l₂ := [ri C 1 12 0 q1])) ?_
  refine k_fill (rest := []) (pc := 93) (j := 50) (q := q1) (ws := [(h0, Sum.inr (0, [Value.int 0, Value.int 0, Value.int 0, Value.int 0, Value.ref q1, Value.ref q2, Value.ref q3, Value.ref q4, Value.ref q5, Value.ref q6, Value.ref q7, Value.ref q8])), ri C 1 36 0 q8, ri C 1 36 0 q7, ri C 1 36 0 q6, ri C 1 36 0 q5, ri C 1 36 0 q4, ri C 1 36 0 q3, ri C 2 12 0 q2]) F (by decide +kernel) (by decide) (by decide) (by decide) (by decide) hsz (by decide +kernel) ?_
  refine Wc.perm (List.perm_append_comm (l₁ := [ri C 1 12 (-1) q1]) (l₂ := [(h0, Sum.inr (0, [Value.int 0, Value.int 0, Value.int 0, Value.int 0, Value.ref q1, Value.ref q2, Value.ref q3, Value.ref q4, Value.ref q5, Value.ref q6, Value.ref q7, Value.ref q8])), ri C 1 36 0 q8, ri C 1 36 0 q7, ri C 1 36 0 q6, ri C 1 36 0 q5, ri C 1 36 0 q4, ri C 1 36 0 q3, ri C 2 12 0 q2])) ?_
  exact K (asg [(11, q1), (12, q2), (13, q3), (14, q4), (15, q5), (16, q6), (17, q7), (18, q8)] (fun _ => 0)) ls 96 (by decide +kernel)
abbrev rm_X2 : Jvm.Room := { frames := 2, cells := 15, slots := 408, locals := 80 }
theorem i_X2 (l : Launch) (D : va_G) (C : Nat → ClassId) : CI l D C yX2_init cX2_init 1 rm_X2 2 [.int 0, .int 0, .int 0, .int 0, .null, .null, .null, .null, .null, .null, .null] (wP C) 15 408 := by
  refine ci_of (by decide) rfl rfl (by decide) ?_
  intro p e s m args below meth c A Q h0 ls F hin hl K
  have a0 : ls[0]? = some (.val (.ref h0)) := lv_at hl 0 rfl
  have hsz : ls.size = 1 := hl.1
  refine k_a0 (pc := 0) F a0 (by decide +kernel) ?_
  refine k_super (rest := []) (pc := 1) (x := 3) F (mt1 (i := 26) (by decide +kernel) rfl) hsz (by decide) (by decide) (by decide +kernel) ?_
  refine k_a0 (pc := 4) F a0 (by decide +kernel) ?_
  refine k_ic (pc := 5) (z := 3) (v := 3) F (by decide +kernel) (by decide) ?_
  refine k_put (pc := 6) (x := 9) (k := 0) (fs := [.int 0, .int 0, .int 0, .int 0, .null, .null, .null, .null, .null, .null, .null]) F hin cl_2 (by decide +kernel) (by decide) rfl rfl (Nat.le_of_ble_eq_true rfl) (by decide +kernel) ?_
  refine k_a0 (pc := 9) F a0 (by decide +kernel) ?_
  refine k_ic (pc := 10) (z := 2) (v := 2) F (by decide +kernel) (by decide) ?_
  refine k_put (pc := 11) (x := 15) (k := 1) (fs := [.int 3, .int 0, .int 0, .int 0, .null, .null, .null, .null, .null, .null, .null]) F hin cl_2 (by decide +kernel) (by decide) rfl rfl (Nat.le_of_ble_eq_true rfl) (by decide +kernel) ?_
  refine k_a0 (pc := 14) F a0 (by decide +kernel) ?_
  refine k_bp (pc := 15) (z := 30) (v := 30) F (by decide +kernel) (by decide) ?_
  refine k_put (pc := 17) (x := 18) (k := 2) (fs := [.int 3, .int 2, .int 0, .int 0, .null, .null, .null, .null, .null, .null, .null]) F hin cl_2 (by decide +kernel) (by decide) rfl rfl (Nat.le_of_ble_eq_true rfl) (by decide +kernel) ?_
  refine k_a0 (pc := 20) F a0 (by decide +kernel) ?_
  refine k_ic (pc := 21) (z := 0) (v := 0) F (by decide +kernel) (by decide) ?_
  refine k_put (pc := 22) (x := 21) (k := 3) (fs := [.int 3, .int 2, .int 30, .int 0, .null, .null, .null, .null, .null, .null, .null]) F hin cl_2 (by decide +kernel) (by decide) rfl rfl (Nat.le_of_ble_eq_true rfl) (by decide +kernel) ?_
  refine k_a0 (pc := 25) F a0 (by decide +kernel) ?_
  refine k_bp (pc := 26) (z := 12) (v := 12) F (by decide +kernel) (by decide) ?_
  refine k_newa (pc := 28) (cells := 0) (slots := 0) (N' := 12) (atype := .int) (j := 0) (ty := .int) (a0 := (12, .inl (fun _ => 0))) F (mt1 (i := 86) (by decide +kernel) rfl) rfl rfl (fun _ => rfl) (by decide) (by decide +kernel) (by decide) (by decide) (by decide) (by decide +kernel) (fun q1 => ?_)
  refine k_put (pc := 30) (x := 24) (k := 4) (fs := [.int 3, .int 2, .int 30, .int 0, .null, .null, .null, .null, .null, .null, .null]) F hin cl_2 (by decide +kernel) (by decide) rfl rfl (Nat.le_of_ble_eq_true rfl) (by decide +kernel) ?_
  refine k_a0 (pc := 33) F a0 (by decide +kernel) ?_
  refine k_bp (pc := 34) (z := 12) (v := 12) F (by decide +kernel) (by decide) ?_
  refine k_newa (pc := 36) (cells := 1) (slots := 12) (N' := 12) (atype := .int) (j := 0) (ty := .int) (a0 := (12, .inl (fun _ => 0))) F (mt1 (i := 86) (by decide +kernel) rfl) rfl rfl (fun _ => rfl) (by decide) (by decide +kernel) (by decide) (by decide) (by decide) (by decide +kernel) (fun q2 => ?_)
  refine k_put (pc := 38) (x := 28) (k := 5) (fs := [.int 3, .int 2, .int 30, .int 0, .ref q1, .null, .null, .null, .null, .null, .null]) F hin cl_2 (by decide +kernel) (by decide) rfl rfl (Nat.le_of_ble_eq_true rfl) (by decide +kernel) ?_
  refine k_a0 (pc := 41) F a0 (by decide +kernel) ?_
  refine k_bp (pc := 42) (z := 12) (v := 12) F (by decide +kernel) (by decide) ?_
  refine k_newa (pc := 44) (cells := 2) (slots := 24) (N' := 12) (atype := .int) (j := 0) (ty := .int) (a0 := (12, .inl (fun _ => 0))) F (mt1 (i := 86) (by decide +kernel) rfl) rfl rfl (fun _ => rfl) (by decide) (by decide +kernel) (by decide) (by decide) (by decide) (by decide +kernel) (fun q3 => ?_)
  refine k_put (pc := 46) (x := 31) (k := 6) (fs := [.int 3, .int 2, .int 30, .int 0, .ref q1, .ref q2, .null, .null, .null, .null, .null]) F hin cl_2 (by decide +kernel) (by decide) rfl rfl (Nat.le_of_ble_eq_true rfl) (by decide +kernel) ?_
  refine k_a0 (pc := 49) F a0 (by decide +kernel) ?_
  refine k_bp (pc := 50) (z := 96) (v := 96) F (by decide +kernel) (by decide) ?_
  refine k_newa (pc := 52) (cells := 3) (slots := 36) (N' := 96) (atype := .int) (j := 0) (ty := .int) (a0 := (96, .inl (fun _ => 0))) F (mt1 (i := 86) (by decide +kernel) rfl) rfl rfl (fun _ => rfl) (by decide) (by decide +kernel) (by decide) (by decide) (by decide) (by decide +kernel) (fun q4 => ?_)
  refine k_put (pc := 54) (x := 34) (k := 7) (fs := [.int 3, .int 2, .int 30, .int 0, .ref q1, .ref q2, .ref q3, .null, .null, .null, .null]) F hin cl_2 (by decide +kernel) (by decide) rfl rfl (Nat.le_of_ble_eq_true rfl) (by decide +kernel) ?_
  refine k_a0 (pc := 57) F a0 (by decide +kernel) ?_
  refine k_bp (pc := 58) (z := 12) (v := 12) F (by decide +kernel) (by decide) ?_
  refine k_newa (pc := 60) (cells := 4) (slots := 132) (N' := 12) (atype := .boolean) (j := 1) (ty := .boolean) (a0 := (12, .inl (fun _ => 0))) F (mt1 (i := 87) (by decide +kernel) rfl) rfl rfl (fun _ => rfl) (by decide) (by decide +kernel) (by decide) (by decide) (by decide) (by decide +kernel) (fun q5 => ?_)
  refine k_put (pc := 62) (x := 37) (k := 8) (fs := [.int 3, .int 2, .int 30, .int 0, .ref q1, .ref q2, .ref q3, .ref q4, .null, .null, .null]) F hin cl_2 (by decide +kernel) (by decide) rfl rfl (Nat.le_of_ble_eq_true rfl) (by decide +kernel) ?_
  refine k_a0 (pc := 65) F a0 (by decide +kernel) ?_
  refine k_bp (pc := 66) (z := 12) (v := 12) F (by decide +kernel) (by decide) ?_
  refine k_newa (pc := 68) (cells := 5) (slots := 144) (N' := 12) (atype := .boolean) (j := 1) (ty := .boolean) (a0 := (12, .inl (fun _ => 0))) F (mt1 (i := 87) (by decide +kernel) rfl) rfl rfl (fun _ => rfl) (by decide) (by decide +kernel) (by decide) (by decide) (by decide) (by decide +kernel) (fun q6 => ?_)
  refine k_put (pc := 70) (x := 41) (k := 9) (fs := [.int 3, .int 2, .int 30, .int 0, .ref q1, .ref q2, .ref q3, .ref q4, .ref q5, .null, .null]) F hin cl_2 (by decide +kernel) (by decide) rfl rfl (Nat.le_of_ble_eq_true rfl) (by decide +kernel) ?_
  refine k_a0 (pc := 73) F a0 (by decide +kernel) ?_
  refine k_mk (pc := 74) (i := 44) (j := 46) (cells := 6) (slots := 156) (X := [_]) F (i_X0 l D C) cl_0 (mt1 (i := 27) (by decide +kernel) rfl) (mt1 (i := 28) (by decide +kernel) rfl) (mt1 (i := 3) (by decide +kernel) rfl) (by decide +kernel) (mt1 (i := 29) (by decide +kernel) rfl) (mt1 (i := 30) (by decide +kernel) rfl) (mt1 (i := 31) (by decide +kernel) rfl) rfl rfl (by decide +kernel) rfl rfl (by decide) (by decide) (by decide) (by decide) hsz (Nat.le_of_ble_eq_true rfl) (by decide +kernel) (by decide +kernel) (by decide +kernel) (fun q7 b7 => ?_)
  refine k_put (pc := 81) (x := 47) (k := 10) (fs := [.int 3, .int 2, .int 30, .int 0, .ref q1, .ref q2, .ref q3, .ref q4, .ref q5, .ref q6, .null]) F hin cl_2 (by decide +kernel) (by decide) rfl rfl (Nat.le_of_ble_eq_true rfl) (by decide +kernel) ?_
  exact K (asg [(4, q1), (5, q2), (6, q3), (7, q4), (8, q5), (9, q6), (10, q7)] b7) ls 84 (by decide +kernel)
abbrev rm_X3 : Jvm.Room := { frames := 1, cells := 1, slots := 20, locals := 40 }
theorem i_X3 (l : Launch) (D : va_G) (C : Nat → ClassId) : CI l D C yX3_init cX3_init 1 rm_X3 3 [.int 0, .int 0, .long 0, .null] (wS C) 1 20 := by
  refine ci_of (by decide) rfl rfl (by decide) ?_
  intro p e s m args below meth c A Q h0 ls F hin hl K
  have a0 : ls[0]? = some (.val (.ref h0)) := lv_at hl 0 rfl
  have hsz : ls.size = 1 := hl.1
  refine k_a0 (pc := 0) F a0 (by decide +kernel) ?_
  refine k_super (rest := []) (pc := 1) (x := 3) F (mt1 (i := 177) (by decide +kernel) rfl) hsz (by decide) (by decide) (by decide +kernel) ?_
  refine k_a0 (pc := 4) F a0 (by decide +kernel) ?_
  refine k_ic (pc := 5) (z := 0) (v := 0) F (by decide +kernel) (by decide) ?_
  refine k_put (pc := 6) (x := 9) (k := 0) (fs := [.int 0, .int 0, .long 0, .null]) F hin cl_3 (by decide +kernel) (by decide) rfl rfl (Nat.le_of_ble_eq_true rfl) (by decide +kernel) ?_
  refine k_a0 (pc := 9) F a0 (by decide +kernel) ?_
  refine k_ic (pc := 10) (z := 0) (v := 0) F (by decide +kernel) (by decide) ?_
  refine k_put (pc := 11) (x := 15) (k := 1) (fs := [.int 0, .int 0, .long 0, .null]) F hin cl_3 (by decide +kernel) (by decide) rfl rfl (Nat.le_of_ble_eq_true rfl) (by decide +kernel) ?_
  refine k_a0 (pc := 14) F a0 (by decide +kernel) ?_
  refine k_lc (pc := 15) (z := 0) (v := 0) F (by decide +kernel) (by decide) ?_
  refine k_put (pc := 16) (x := 18) (k := 2) (fs := [.int 0, .int 0, .long 0, .null]) F hin cl_3 (by decide +kernel) (by decide) rfl rfl (Nat.le_of_ble_eq_true rfl) (by decide +kernel) ?_
  refine k_a0 (pc := 19) F a0 (by decide +kernel) ?_
  refine k_bp (pc := 20) (z := 20) (v := 20) F (by decide +kernel) (by decide) ?_
  refine k_newa (pc := 22) (cells := 0) (slots := 0) (N' := 20) (atype := .long) (j := 3) (ty := .long) (a0 := (20, .inr (.inl (fun _ => 0)))) F (mt1 (i := 191) (by decide +kernel) rfl) rfl rfl (fun _ => rfl) (by decide) (by decide +kernel) (by decide) (by decide) (by decide) (by decide +kernel) (fun q1 => ?_)
  refine k_put (pc := 24) (x := 22) (k := 3) (fs := [.int 0, .int 0, .long 0, .null]) F hin cl_3 (by decide +kernel) (by decide) rfl rfl (Nat.le_of_ble_eq_true rfl) (by decide +kernel) ?_
  exact K (asg [(23, q1)] (fun _ => 0)) ls 27 (by decide +kernel)
abbrev rm_X1 : Jvm.Room := { frames := 2, cells := 3, slots := 36, locals := 80 }
theorem i_X1 (l : Launch) (D : va_G) (C : Nat → ClassId) : CI l D C yX1_init cX1_init 1 rm_X1 1 [.null, .null] (wM C) 3 36 := by
  refine ci_of (by decide) rfl rfl (by decide) ?_
  intro p e s m args below meth c A Q h0 ls F hin hl K
  have a0 : ls[0]? = some (.val (.ref h0)) := lv_at hl 0 rfl
  have hsz : ls.size = 1 := hl.1
  refine k_a0 (pc := 0) F a0 (by decide +kernel) ?_
  refine k_super (rest := []) (pc := 1) (x := 3) F (mt1 (i := 171) (by decide +kernel) rfl) hsz (by decide) (by decide) (by decide +kernel) ?_
  refine k_a0 (pc := 4) F a0 (by decide +kernel) ?_
  refine k_mkN (nw := nwS) (pc := 5) (i := 9) (j := 11) (cells := 0) (slots := 0) (X := [_]) F (i_X3 l D C) cl_3 (mt1 (i := 172) (by decide +kernel) rfl) (mt1 (i := 173) (by decide +kernel) rfl) (mt1 (i := 7) (by decide +kernel) rfl) (by decide +kernel) rfl F.2.1.2.1.2 (mt1 (i := 175) (by decide +kernel) rfl) (mt1 (i := 176) (by decide +kernel) rfl) rfl rfl (by decide +kernel) rfl rfl (by decide) (by decide) (by decide) (by decide) hsz (Nat.le_of_ble_eq_true rfl) (by decide +kernel) (by decide +kernel) (by decide +kernel) (fun q1 b1 => ?_)
  refine k_put (pc := 12) (x := 12) (k := 0) (fs := [.null, .null]) F hin cl_1 (by decide +kernel) (by decide) rfl rfl (Nat.le_of_ble_eq_true rfl) (by decide +kernel) ?_
  refine k_a0 (pc := 15) F a0 (by decide +kernel) ?_
  refine k_bp (pc := 16) (z := 12) (v := 12) F (by decide +kernel) (by decide) ?_
  refine k_newa (pc := 18) (cells := 2) (slots := 24) (N' := 12) (atype := .int) (j := 0) (ty := .int) (a0 := (12, .inl (fun _ => 0))) F (mt1 (i := 86) (by decide +kernel) rfl) rfl rfl (fun _ => rfl) (by decide) (by decide +kernel) (by decide) (by decide) (by decide) (by decide +kernel) (fun q2 => ?_)
  refine k_put (pc := 20) (x := 18) (k := 1) (fs := [.ref q1, .null]) F hin cl_1 (by decide +kernel) (by decide) rfl rfl (Nat.le_of_ble_eq_true rfl) (by decide +kernel) ?_
  exact K (asg [(22, q1), (24, q2)] b1) ls 23 (by decide +kernel)
abbrev rm_X4 : Jvm.Room := { frames := 1, cells := 1, slots := 120, locals := 40 }
theorem i_X4 (l : Launch) (D : va_G) (C : Nat → ClassId) : CI l D C yX4_init cX4_init 1 rm_X4 4 [.int 0, .null, .int 0, .int 0] (wT C) 1 120 := by
  refine ci_of (by decide) rfl rfl (by decide) ?_
  intro p e s m args below meth c A Q h0 ls F hin hl K
  have a0 : ls[0]? = some (.val (.ref h0)) := lv_at hl 0 rfl
  have hsz : ls.size = 1 := hl.1
  refine k_a0 (pc := 0) F a0 (by decide +kernel) ?_
  refine k_super (rest := []) (pc := 1) (x := 3) F (mt1 (i := 151) (by decide +kernel) rfl) hsz (by decide) (by decide) (by decide +kernel) ?_
  refine k_a0 (pc := 4) F a0 (by decide +kernel) ?_
  refine k_ic (pc := 5) (z := 0) (v := 0) F (by decide +kernel) (by decide) ?_
  refine k_put (pc := 6) (x := 9) (k := 0) (fs := [.int 0, .null, .int 0, .int 0]) F hin cl_4 (by decide +kernel) (by decide) rfl rfl (Nat.le_of_ble_eq_true rfl) (by decide +kernel) ?_
  refine k_a0 (pc := 9) F a0 (by decide +kernel) ?_
  refine k_bp (pc := 10) (z := 120) (v := 120) F (by decide +kernel) (by decide) ?_
  refine k_newa (pc := 12) (cells := 0) (slots := 0) (N' := 120) (atype := .int) (j := 0) (ty := .int) (a0 := (120, .inl (fun _ => 0))) F (mt1 (i := 86) (by decide +kernel) rfl) rfl rfl (fun _ => rfl) (by decide) (by decide +kernel) (by decide) (by decide) (by decide) (by decide +kernel) (fun q1 => ?_)
  refine k_put (pc := 14) (x := 15) (k := 1) (fs := [.int 0, .null, .int 0, .int 0]) F hin cl_4 (by decide +kernel) (by decide) rfl rfl (Nat.le_of_ble_eq_true rfl) (by decide +kernel) ?_
  refine k_a0 (pc := 17) F a0 (by decide +kernel) ?_
  refine k_ic (pc := 18) (z := 0) (v := 0) F (by decide +kernel) (by decide) ?_
  refine k_put (pc := 19) (x := 19) (k := 2) (fs := [.int 0, .ref q1, .int 0, .int 0]) F hin cl_4 (by decide +kernel) (by decide) rfl rfl (Nat.le_of_ble_eq_true rfl) (by decide +kernel) ?_
  refine k_a0 (pc := 22) F a0 (by decide +kernel) ?_
  refine k_ic (pc := 23) (z := -1) (v := -1) F (by decide +kernel) (by decide) ?_
  refine k_put (pc := 24) (x := 22) (k := 3) (fs := [.int 0, .ref q1, .int 0, .int 0]) F hin cl_4 (by decide +kernel) (by decide) rfl rfl (Nat.le_of_ble_eq_true rfl) (by decide +kernel) ?_
  exact K (asg [(20, q1)] (fun _ => 0)) ls 27 (by decide +kernel)
