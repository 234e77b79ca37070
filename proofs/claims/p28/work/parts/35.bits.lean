-- PURE: the bits of the longs
def bt (x : Int64) (i : Int) : Prop := x.toBitVec.getLsbD i.toNat = true
theorem bt_hi {x : Int64} {i : Int} (h : 64 ≤ i) : ¬ bt x i := by
  unfold bt
  rw [BitVec.getLsbD_of_ge _ _ (by omega)]
  simp
theorem bt_and {x y : Int64} {i : Int} : bt (x &&& y) i ↔ bt x i ∧ bt y i := by
  unfold bt
  rw [Int64.toBitVec_and, BitVec.getLsbD_and, Bool.and_eq_true]
theorem bt_or {x y : Int64} {i : Int} : bt (x ||| y) i ↔ bt x i ∨ bt y i := by
  unfold bt
  rw [Int64.toBitVec_or, BitVec.getLsbD_or, Bool.or_eq_true]
theorem bt_not {x : Int64} {i : Int} (h0 : 0 ≤ i) (h : i < 64) : bt (x ^^^ (-1)) i ↔ ¬ bt x i := by
  unfold bt
  have e : (-1 : Int64).toBitVec = BitVec.allOnes 64 := by decide
  rw [Int64.toBitVec_xor, BitVec.getLsbD_xor, e, BitVec.getLsbD_allOnes, decide_eq_true (show i.toNat < 64 by omega)]
  cases x.toBitVec.getLsbD i.toNat <;> simp
theorem bt_zero {i : Int} : ¬ bt (Int64.ofNat 0) i := by
  unfold bt
  rw [show (Int64.ofNat 0).toBitVec = 0#64 from by decide, BitVec.getLsbD_zero]
  simp
theorem bt_ext0 {x : Int64} (h : ∀ i, 0 ≤ i → i < 64 → ¬ bt x i) : x = Int64.ofNat 0 := by
  apply Int64.toBitVec.inj
  rw [show (Int64.ofNat 0).toBitVec = 0#64 from by decide]
  apply BitVec.eq_of_getLsbD_eq
  intro i hi
  have := h i (by omega) (by omega)
  unfold bt at this
  rw [Int.toNat_natCast] at this
  rw [BitVec.getLsbD_zero]
  simpa using this
theorem sh_amt (y : Nat) (h : y < 64) : (((Int32.ofInt (y : Int)).toInt64 &&& 63).toBitVec.smod 64).toNat = y := by
  have : ∀ z : Fin 64, (((Int32.ofInt ((z.val : Nat) : Int)).toInt64 &&& 63).toBitVec.smod 64).toNat = z.val := by decide +kernel
  exact this ⟨y, h⟩
theorem shu_amt (y : Nat) (h : y < 64) : (((Int32.ofInt (y : Int)).toInt64.toUInt64 &&& Int64.toUInt64 63).toBitVec % 64).toNat = y := by
  have : ∀ z : Fin 64, (((Int32.ofInt ((z.val : Nat) : Int)).toInt64.toUInt64 &&& Int64.toUInt64 63).toBitVec % 64).toNat = z.val := by decide +kernel
  exact this ⟨y, h⟩
theorem bt_shl {x : Int64} {y i : Int} (h1 : 0 ≤ y) (h2 : y < 64) (i1 : 0 ≤ i) (i2 : i < 64) : bt (lshlA x y) i ↔ y ≤ i ∧ bt x (i - y) := by
  obtain ⟨a, rfl⟩ := Int.eq_ofNat_of_zero_le h1
  obtain ⟨b, rfl⟩ := Int.eq_ofNat_of_zero_le i1
  unfold bt lshlA
  rw [Int64.toBitVec_shiftLeft, BitVec.shiftLeft_eq', sh_amt a (by omega), BitVec.getLsbD_shiftLeft]
  have e : ((b : Int) - a).toNat = b - a := by omega
  rw [e, Int.toNat_natCast]
  have e1 : decide (b < 64) = true := decide_eq_true (by omega)
  rw [e1, Bool.true_and, Bool.and_eq_true]
  simp
theorem bt_shr {x : Int64} {y i : Int} (h1 : 0 ≤ y) (h2 : y < 64) (i1 : 0 ≤ i) : bt (lushrA x y) i ↔ bt x (i + y) := by
  obtain ⟨a, rfl⟩ := Int.eq_ofNat_of_zero_le h1
  obtain ⟨b, rfl⟩ := Int.eq_ofNat_of_zero_le i1
  unfold bt lushrA
  rw [UInt64.toBitVec_toInt64, UInt64.toBitVec_shiftRight, BitVec.ushiftRight_eq', shu_amt a (by omega), BitVec.getLsbD_ushiftRight, Int64.toBitVec_toUInt64]
  have e : ((b : Int) + a).toNat = a + b := by omega
  rw [e, Int.toNat_natCast]
theorem ones_bv (s : Nat) (h : s < 64) : (lshlA (Int64.ofNat 1) s - Int64.ofNat 1).toBitVec = BitVec.ofNat 64 (2 ^ s - 1) := by
  have : ∀ z : Fin 64, (lshlA (Int64.ofNat 1) ((z.val : Nat) : Int) - Int64.ofNat 1).toBitVec = BitVec.ofNat 64 (2 ^ z.val - 1) := by decide +kernel
  exact this ⟨s, h⟩
theorem bt_ones {s i : Int} (h1 : 0 ≤ s) (h2 : s < 64) (i1 : 0 ≤ i) (i2 : i < 64) : bt (lshlA (Int64.ofNat 1) s - Int64.ofNat 1) i ↔ i < s := by
  obtain ⟨a, rfl⟩ := Int.eq_ofNat_of_zero_le h1
  obtain ⟨b, rfl⟩ := Int.eq_ofNat_of_zero_le i1
  unfold bt
  rw [ones_bv a (by omega), BitVec.getLsbD_ofNat, Nat.testBit_two_pow_sub_one, Int.toNat_natCast, Bool.and_eq_true]
  simp
  omega
/-- the lines of a piece -/
theorem bt_bits {t s i : Int} (t0 : 0 ≤ t) (s0 : 0 ≤ s) (h : t + s ≤ 60) (i1 : 0 ≤ i) (i2 : i < 64) : bt (lshlA (lshlA (Int64.ofNat 1) s - Int64.ofNat 1) t) i ↔ t ≤ i ∧ i < t + s := by
  rw [bt_shl t0 (by omega) i1 i2]
  constructor
  · rintro ⟨a, b⟩
    rw [bt_ones s0 (by omega) (by omega) (by omega)] at b
    omega
  · rintro ⟨a, b⟩
    exact ⟨a, (bt_ones s0 (by omega) (by omega) (by omega)).2 (by omega)⟩
theorem lg_z {x : Int64} : (lg_cmp x (Int64.ofNat 0)).toInt = 0 ↔ x = Int64.ofNat 0 := by
  unfold lg_cmp
  constructor
  · intro h
    split at h
    · exact absurd h (by decide)
    · split at h
      · assumption
      · exact absurd h (by decide)
  · intro h
    rw [h]
    decide
theorem i32_bd (x : Int32) : InR x.toInt := by
  have h1 := x.toInt_lt
  have h2 := x.le_toInt
  exact ir (by omega) (by omega)
/-- the lowest bit: the JDK's steps -/
def ntA (v : Int) : Int × Int := if 65536 < v then (iop (fun a b => (a.toUInt32 >>> (b.toUInt32 &&& Int32.toUInt32 31)).toInt32) v 16, 1 + 16) else (v, 1)
def ntB (p : Int × Int) : Int × Int := if 256 < p.1 then (iop (fun a b => (a.toUInt32 >>> (b.toUInt32 &&& Int32.toUInt32 31)).toInt32) p.1 8, p.2 + 8) else p
def ntC (p : Int × Int) : Int × Int := if 16 < p.1 then (iop (fun a b => (a.toUInt32 >>> (b.toUInt32 &&& Int32.toUInt32 31)).toInt32) p.1 4, p.2 + 4) else p
def ntD (p : Int × Int) : Int × Int := if 4 < p.1 then (iop (fun a b => (a.toUInt32 >>> (b.toUInt32 &&& Int32.toUInt32 31)).toInt32) p.1 2, p.2 + 2) else p
def ntE (p : Int × Int) : Int := p.2 + iop (fun a b => (a.toUInt32 >>> (b.toUInt32 &&& Int32.toUInt32 31)).toInt32) p.1 1
def ntV (v : Int) : Int := if 0 < v then ntE (ntD (ntC (ntB (ntA v)))) else iop (· &&& ·) v 32
def ntM (x : Int) : Int := iop (· &&& ·) (iop (· ^^^ ·) x (-1)) (x - 1)
theorem ntV_pow (k : Nat) (h : k < 32) : ntV ((BitVec.ofNat 32 (2 ^ k - 1)).toInt) = k := by
  have : ∀ z : Fin 32, ntV ((BitVec.ofNat 32 (2 ^ z.val - 1)).toInt) = ((z.val : Nat) : Int) := by decide +kernel
  exact this ⟨k, h⟩
theorem iop_bd (f : Int32 → Int32 → Int32) (a b : Int) : InR (iop f a b) := i32_bd (f (Int32.ofInt a) (Int32.ofInt b))
theorem c_ntz32 {Γ : GG} {d : Nat} {m : MI} {n : ML} {post : PO} {x : Int} (K : post (some (vi (ntV (ntM x)))) m n) : CM Γ d 70 [vi x] m n post := by
  have f5 : ∀ p q : Int, post (some (vi (ntE (p, q)))) m n → AM Γ d 70 74 [some (vi p), some (vi q)] [] m n post := fun p q k => b70_74 k
  have f4 : ∀ p q : Int, InR p → post (some (vi (ntE (ntD (p, q))))) m n → AM Γ d 70 62 [some (vi p), some (vi q)] [] m n post := fun p q hp k => by
    unfold ntD at k
    dsimp only at k
    refine b70_62 hp (fun z => f5 p q ?_) (fun z => b70_67 (f5 _ _ ?_))
    · rw [if_neg z] at k; exact k
    · rw [if_pos z] at k; exact k
  have f3 : ∀ p q : Int, InR p → post (some (vi (ntE (ntD (ntC (p, q)))))) m n → AM Γ d 70 49 [some (vi p), some (vi q)] [] m n post := fun p q hp k => by
    unfold ntC at k
    dsimp only at k
    refine b70_49 hp (fun z => f4 p q hp ?_) (fun z => b70_55 (f4 _ _ (iop_bd _ p 4) ?_))
    · rw [if_neg z] at k; exact k
    · rw [if_pos z] at k; exact k
  have f2 : ∀ p q : Int, InR p → post (some (vi (ntE (ntD (ntC (ntB (p, q))))))) m n → AM Γ d 70 34 [some (vi p), some (vi q)] [] m n post := fun p q hp k => by
    unfold ntB at k
    dsimp only at k
    refine b70_34 hp (fun z => f3 p q hp ?_) (fun z => b70_41 (f3 _ _ (iop_bd _ p 8) ?_))
    · rw [if_neg z] at k; exact k
    · rw [if_pos z] at k; exact k
  have f1 : ∀ p : Int, ∀ w, InR p → post (some (vi (ntE (ntD (ntC (ntB (ntA p))))))) m n → AM Γ d 70 17 [some (vi p), w] [] m n post := fun p w hp k => by
    unfold ntA at k
    refine b70_17 hp (fun z => f2 p 1 hp ?_) (fun z => b70_26 (f2 _ _ (iop_bd _ p 16) ?_))
    · rw [if_neg z] at k; exact k
    · rw [if_pos z] at k; exact k
  have hv : InR (ntM x) := iop_bd _ _ _
  refine e70 (b70_0 hv (fun h => f1 (ntM x) _ hv ?_) (fun h => b70_12 ?_))
  · have h' : 0 < ntM x := h
    rw [ntV, if_pos h'] at K
    exact K
  · have h' : ¬ 0 < ntM x := h
    rw [ntV, if_neg h'] at K
    exact K
/-- the lowest bit of a number, by the JDK's mask -/
theorem tz_mask (X : Nat) (k : Nat) (hk : X.testBit k = true) (hl : ∀ j, j < k → X.testBit j = false) : ∀ j, (X - 1).testBit j = if j < k then true else if j = k then false else X.testBit j := by
  have h1 : X % 2 ^ k = 0 := by
    apply Nat.eq_of_testBit_eq
    intro j
    rw [Nat.testBit_mod_two_pow, Nat.zero_testBit]
    by_cases q : j < k
    · rw [hl j q]; simp
    · simp [q]
  have h2 : X / 2 ^ k % 2 = 1 := by
    have := hk
    rw [Nat.testBit_eq_decide_div_mod_eq] at this
    simpa using this
  have hX : X = 2 ^ (k + 1) * (X / 2 ^ k / 2) + 2 ^ k := by
    have a := Nat.div_add_mod X (2 ^ k)
    have b := Nat.div_add_mod (X / 2 ^ k) 2
    rw [h1, Nat.add_zero] at a
    rw [h2] at b
    calc X = 2 ^ k * (X / 2 ^ k) := a.symm
      _ = 2 ^ k * (2 * (X / 2 ^ k / 2) + 1) := by rw [b]
      _ = 2 ^ (k + 1) * (X / 2 ^ k / 2) + 2 ^ k := by rw [Nat.mul_add, Nat.mul_one, ← Nat.mul_assoc, Nat.pow_succ]
  have hp : 0 < 2 ^ k := Nat.two_pow_pos k
  have hlt : 2 ^ k - 1 < 2 ^ (k + 1) := by rw [Nat.pow_succ]; omega
  have hlt' : 2 ^ k < 2 ^ (k + 1) := by rw [Nat.pow_succ]; omega
  have hX1 : X - 1 = 2 ^ (k + 1) * (X / 2 ^ k / 2) + (2 ^ k - 1) := by omega
  intro j
  rw [hX1, Nat.testBit_two_pow_mul_add _ hlt, Nat.testBit_two_pow_sub_one]
  by_cases q : j < k
  · rw [if_pos (by omega), if_pos q]; simp [q]
  · rw [if_neg q]
    by_cases q2 : j = k
    · rw [if_pos q2, if_pos (by omega)]; simp [q2]
    · rw [if_neg q2, if_neg (by omega)]
      conv => rhs; rw [hX]
      rw [Nat.testBit_two_pow_mul_add _ hlt', if_neg (by omega)]
def b32 (x : Int) (j : Nat) : Bool := (BitVec.ofInt 32 x).getLsbD j
theorem ntM_pow {x : Int} {k : Nat} (hk : k < 32) (h1 : b32 x k = true) (h2 : ∀ j, j < k → b32 x j = false) : ntM x = (BitVec.ofNat 32 (2 ^ k - 1)).toInt := by
  have e0 : ∀ j, (BitVec.ofInt 32 x).toNat.testBit j = b32 x j := fun j => rfl
  have hs : (BitVec.ofInt 32 (x - 1)).toNat = (BitVec.ofInt 32 x).toNat - 1 := by
    have hpos : 0 < (BitVec.ofInt 32 x).toNat := by
      rcases Nat.eq_zero_or_pos (BitVec.ofInt 32 x).toNat with z | z
      · have := e0 k
        rw [z, Nat.zero_testBit, h1] at this
        exact absurd this (by decide)
      · exact z
    have e32 : ((2 ^ 32 : Nat) : Int) = 4294967296 := by decide
    rw [BitVec.toNat_ofInt, e32] at hpos
    rw [BitVec.toNat_ofInt, BitVec.toNat_ofInt, e32]
    omega
  have tm := tz_mask (BitVec.ofInt 32 x).toNat k (by rw [e0, h1]) (fun j hj => by rw [e0, h2 j hj])
  unfold ntM iop
  rw [Int32.ofInt_toInt]
  show (((Int32.ofInt x ^^^ Int32.ofInt (-1)) &&& Int32.ofInt (x - 1)).toBitVec).toInt = _
  congr 1
  rw [Int32.toBitVec_and, Int32.toBitVec_xor, Int32.toBitVec_ofInt, Int32.toBitVec_ofInt, Int32.toBitVec_ofInt]
  apply BitVec.eq_of_getLsbD_eq
  intro j hj
  have e : BitVec.ofInt 32 (-1) = BitVec.allOnes 32 := by decide
  have ej : (BitVec.ofInt 32 (x - 1)).getLsbD j = ((BitVec.ofInt 32 x).toNat - 1).testBit j := by rw [← hs]; rfl
  rw [BitVec.getLsbD_and, BitVec.getLsbD_xor, e, BitVec.getLsbD_allOnes, BitVec.getLsbD_ofNat, Nat.testBit_two_pow_sub_one, ej, tm j, e0]
  have c0 : (BitVec.ofInt 32 x).getLsbD j = b32 x j := rfl
  rw [c0]
  by_cases q : j < k
  · rw [if_pos q, h2 j q]; simp [q, hj]
  · rw [if_neg q]
    by_cases q2 : j = k
    · rw [if_pos q2]; simp [q2]
    · rw [if_neg q2]
      cases b32 x j <;> simp [q, hj]
theorem low_bit {f : Nat → Bool} : ∀ N : Nat, (∃ j, j < N ∧ f j = true) → ∃ k, k < N ∧ f k = true ∧ ∀ j, j < k → f j = false := by
  intro N
  induction N with
  | zero => rintro ⟨j, h, _⟩; omega
  | succ N ih =>
    rintro ⟨j, h, hj⟩
    by_cases q : ∃ j, j < N ∧ f j = true
    · obtain ⟨k, k1, k2, k3⟩ := ih q
      exact ⟨k, by omega, k2, k3⟩
    · have hn : ∀ j, j < N → f j = false := fun j hjn => by
        cases e : f j
        · rfl
        · exact absurd ⟨j, hjn, e⟩ q
      have : j = N := by
        rcases (show j < N ∨ j = N by omega) with z | z
        · rw [hn j z] at hj; exact absurd hj (by decide)
        · exact z
      subst this
      exact ⟨j, by omega, hj, hn⟩
theorem b32_lo (x : Int64) {j : Nat} (h : j < 32) : b32 x.toInt32.toInt j = x.toBitVec.getLsbD j := by
  unfold b32
  rw [show x.toInt32.toInt = x.toInt32.toBitVec.toInt from rfl, BitVec.ofInt_toInt, Int64.toBitVec_toInt32, BitVec.getLsbD_signExtend, decide_eq_true h, if_pos (by omega), Bool.true_and]
theorem lo_nz {x : Int64} (h : ¬ x.toInt32.toInt = 0) : ∃ j, j < 32 ∧ b32 x.toInt32.toInt j = true := by
  by_cases q : ∃ j, j < 32 ∧ b32 x.toInt32.toInt j = true
  · exact q
  · refine absurd ?_ h
    have e : x.toInt32.toBitVec = 0#32 := by
      apply BitVec.eq_of_getLsbD_eq
      intro j hj
      rw [BitVec.getLsbD_zero]
      have : b32 x.toInt32.toInt j = x.toInt32.toBitVec.getLsbD j := by
        unfold b32
        rw [show x.toInt32.toInt = x.toInt32.toBitVec.toInt from rfl, BitVec.ofInt_toInt]
      rw [← this]
      cases e : b32 x.toInt32.toInt j
      · rfl
      · exact absurd ⟨j, hj, e⟩ q
    show x.toInt32.toBitVec.toInt = 0
    rw [e]
    decide
theorem nt32 {x : Int64} (h : ¬ x.toInt32.toInt = 0) : ∃ k : Nat, k < 32 ∧ ntV (ntM x.toInt32.toInt) = k ∧ x.toBitVec.getLsbD k = true ∧ ∀ j, j < k → x.toBitVec.getLsbD j = false := by
  obtain ⟨k, k1, k2, k3⟩ := low_bit 32 (lo_nz h)
  refine ⟨k, k1, ?_, ?_, fun j hj => ?_⟩
  · rw [ntM_pow k1 k2 k3, ntV_pow k k1]
  · rw [← b32_lo x k1]; exact k2
  · rw [← b32_lo x (by omega)]; exact k3 j hj
theorem c_ntz64 {Γ : GG} {d : Nat} {m : MI} {n : ML} {post : PO} {x : Int64} (hx : x ≠ Int64.ofNat 0) (K : ∀ r, 0 ≤ r → r < 64 → bt x r → (∀ j, 0 ≤ j → j < r → ¬ bt x j) → post (some (vi r)) m n) : CM Γ (d + 1) 71 [vl x] m n post := by
  refine e71 (b71_0 (i32_bd _) (fun h => ?_) (fun h => ?_))
  · obtain ⟨k, k1, k2, k3, k4⟩ := nt32 h
    refine b71_21 (c_ntz32 (b71_25 ?_))
    rw [k2]
    refine K k (by omega) (by omega) ?_ (fun j j1 j2 => ?_)
    · unfold bt; rw [Int.toNat_natCast]; exact k3
    · unfold bt; rw [k4 j.toNat (by omega)]; decide
  · have lo : ∀ j, j < 32 → x.toBitVec.getLsbD j = false := fun j hj => by
      rw [← b32_lo x hj, h]
      unfold b32
      rw [show BitVec.ofInt 32 0 = 0#32 from by decide, BitVec.getLsbD_zero]
    have hb : ∀ j : Nat, j < 32 → ((lushrA x 32).toBitVec.getLsbD j = x.toBitVec.getLsbD (32 + j)) := fun j hj => by
      have := bt_shr (x := x) (y := 32) (i := (j : Int)) (by omega) (by omega) (by omega)
      unfold bt at this
      rw [Int.toNat_natCast, show ((j : Int) + 32).toNat = 32 + j by omega] at this
      cases e1 : (lushrA x 32).toBitVec.getLsbD j <;> cases e2 : x.toBitVec.getLsbD (32 + j) <;> simp [e1, e2] at this ⊢
    have hn : ¬ (lushrA x 32).toInt32.toInt = 0 := by
      intro z
      refine hx (bt_ext0 (fun i i0 i1 => ?_))
      unfold bt
      rcases (show i.toNat < 32 ∨ 32 ≤ i.toNat by omega) with q | q
      · rw [lo _ q]; decide
      · have e := b32_lo (lushrA x 32) (j := i.toNat - 32) (by omega)
        rw [hb _ (by omega), show 32 + (i.toNat - 32) = i.toNat by omega, z] at e
        rw [← e]
        unfold b32
        rw [show BitVec.ofInt 32 0 = 0#32 from by decide, BitVec.getLsbD_zero]
        decide
    obtain ⟨k, k1, k2, k3, k4⟩ := nt32 hn
    refine b71_7 (c_ntz32 (b71_17 (b71_25 ?_)))
    rw [k2]
    refine K (32 + k) (by omega) (by omega) ?_ (fun j j1 j2 => ?_)
    · unfold bt
      rw [show ((32 : Int) + k).toNat = 32 + k by omega, ← hb k k1]
      exact k3
    · unfold bt
      rcases (show j.toNat < 32 ∨ 32 ≤ j.toNat by omega) with q | q
      · rw [lo _ q]; decide
      · have := hb (j.toNat - 32) (by omega)
        rw [show 32 + (j.toNat - 32) = j.toNat by omega] at this
        rw [← this, k4 _ (by omega)]
        decide
theorem c_startsOfRoom {Γ : GG} {d : Nat} {m : MI} {n : ML} {post : PO} {x : Int64} {size lines : Int} (hall : ∀ i, 0 ≤ i → i < 64 → (bt (n 22 2) i ↔ i < lines)) (hl : lines ≤ 60) (h1 : 1 ≤ size) (h2 : size ≤ lines) (K : ∀ r, (∀ i, 0 ≤ i → i < 64 → (bt r i ↔ ∀ j, i ≤ j → j < i + size → j < lines ∧ ¬ bt x j)) → post (some (vl r)) m n) : CM Γ d 41 [vr 22 0, vl x, vi size] m n post := by
  have both : ∀ (y : Int64) (w v : Int), 1 ≤ w → 0 ≤ v → v ≤ w → w + v ≤ 60 → (∀ i, 0 ≤ i → i < 64 → (bt y i ↔ ∀ j, i ≤ j → j < i + w → j < lines ∧ ¬ bt x j)) → ∀ i, 0 ≤ i → i < 64 → (bt (y &&& lushrA y v) i ↔ ∀ j, i ≤ j → j < i + (w + v) → j < lines ∧ ¬ bt x j) := by
    intro y w v w1 v0 vw wv hy i i0 i1
    rw [bt_and, bt_shr v0 (by omega) i0, hy i i0 i1]
    by_cases q : i + v < 64
    · rw [hy (i + v) (by omega) q]
      constructor
      · rintro ⟨a, b⟩ j j1 j2
        rcases (show j < i + w ∨ i + v ≤ j by omega) with z | z
        · exact a j j1 z
        · exact b j z (by omega)
      · intro a
        exact ⟨fun j j1 j2 => a j j1 (by omega), fun j j1 j2 => a j (by omega) (by omega)⟩
    · constructor
      · rintro ⟨_, b⟩
        exact absurd b (bt_hi (by omega))
      · intro a
        have := (a (i + v) (by omega) (by omega)).1
        omega
  have key : ∀ (z : Nat) (y : Int64) (w : Int), (size - w).toNat ≤ z → 1 ≤ w → w ≤ size → (∀ i, 0 ≤ i → i < 64 → (bt y i ↔ ∀ j, i ≤ j → j < i + w → j < lines ∧ ¬ bt x j)) → AM Γ d 41 15 [some (vr 22 0), some (vl x), none, some (vi size), some (vl y), none, some (vi w)] [] m n post := by
    intro z
    induction z with
    | zero =>
      intro y w hz w1 w2 hy
      refine b41_15 (by omega) (by omega) (fun q => b41_44 (K _ ?_)) (fun q => by omega)
      have := both y w (size - w) w1 (by omega) (by omega) (by omega) hy
      rw [show w + (size - w) = size by omega] at this
      exact this
    | succ z ih =>
      intro y w hz w1 w2 hy
      refine b41_15 (by omega) (by omega) (fun q => b41_44 (K _ ?_)) (fun q => b41_24 (ih _ _ (by omega) (by omega) (by omega) (both y w w w1 (by omega) (by omega) (by omega) hy)))
      have := both y w (size - w) w1 (by omega) (by omega) (by omega) hy
      rw [show w + (size - w) = size by omega] at this
      exact this
  refine e41 (b41_0 (key _ _ 1 (Nat.le_refl _) (by omega) h1 (fun i i0 i1 => ?_)))
  rw [bt_and, bt_not i0 i1, hall i i0 i1]
  constructor
  · rintro ⟨a, b⟩ j j1 j2
    rw [show j = i by omega]
    exact ⟨b, a⟩
  · intro a
    have := a i (by omega) (by omega)
    exact ⟨this.2, this.1⟩
