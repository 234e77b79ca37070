-- PURE: reads of a written memory, sums over ranges, loops
theorem up_rd (m : MI) (k : Nat) (p i v : Int) (k' : Nat) (p' i' : Int) : up m k p i v k' p' i' = if k' = k ∧ p' = p ∧ i' = i then v else m k' p' i' := rfl
theorem ul_rd (n : ML) (k : Nat) (i : Int) (v : Int64) (k' : Nat) (i' : Int) : ul n k i v k' i' = if k' = k ∧ i' = i then v else n k' i' := rfl
theorem cpy_rd (m : MI) (ks : Nat) (ps sp : Int) (kd : Nat) (pd dp len : Int) (k : Nat) (p i : Int) : cpy m ks ps sp kd pd dp len k p i = if k = kd ∧ p = pd ∧ dp ≤ i ∧ i < dp + len then m ks ps (sp + (i - dp)) else m k p i := rfl
def sumN (f : Int → Int) (a : Int) : Nat → Int
  | 0 => 0
  | n + 1 => sumN f a n + f (a + n)
/-- the sum over a ≤ j < b -/
def Sm (f : Int → Int) (a b : Int) : Int := sumN f a (b - a).toNat
theorem Sm_nil {f : Int → Int} {a b : Int} (h : b ≤ a) : Sm f a b = 0 := by
  unfold Sm
  rw [show (b - a).toNat = 0 by omega]
  rfl
theorem Sm_succ {f : Int → Int} {a b : Int} (h : a ≤ b) : Sm f a (b + 1) = Sm f a b + f b := by
  unfold Sm
  rw [show (b + 1 - a).toNat = (b - a).toNat + 1 by omega]
  show sumN f a (b - a).toNat + f (a + ((b - a).toNat : Int)) = _
  rw [show a + ((b - a).toNat : Int) = b by omega]
theorem up_ind {P : Int → Prop} (lo hi : Int) (h : lo ≤ hi) (hhi : P hi) (hs : ∀ x, lo ≤ x → x < hi → P (x + 1) → P x) : P lo := by
  have key : ∀ (z : Nat) (x : Int), lo ≤ x → x ≤ hi → (hi - x).toNat = z → P x := by
    intro z
    induction z with
    | zero => intro x h1 h2 h3; rw [show x = hi by omega]; exact hhi
    | succ z ih =>
      intro x h1 h2 h3
      exact hs x h1 (by omega) (ih (x + 1) (by omega) (by omega) (by omega))
  exact key _ lo (Int.le_refl _) h rfl
theorem down_ind {P : Int → Prop} (lo hi : Int) (h : lo ≤ hi) (hlo : P lo) (hs : ∀ x, lo < x → x ≤ hi → P (x - 1) → P x) : P hi := by
  have key : ∀ (z : Nat) (x : Int), lo ≤ x → x ≤ hi → (x - lo).toNat = z → P x := by
    intro z
    induction z with
    | zero => intro x h1 h2 h3; rw [show x = lo by omega]; exact hlo
    | succ z ih =>
      intro x h1 h2 h3
      exact hs x (by omega) h2 (ih (x - 1) (by omega) (by omega) (by omega))
  exact key _ hi h (Int.le_refl _) rfl
/-- facts up to a bound, upwards -/
theorem nat_ind {P : Int → Prop} (lo hi : Int) (h0 : P lo) (hs : ∀ x, lo ≤ x → x < hi → P x → P (x + 1)) : ∀ x, lo ≤ x → x ≤ hi → P x := by
  have key : ∀ (z : Nat) (x : Int), lo ≤ x → x ≤ hi → (x - lo).toNat = z → P x := by
    intro z
    induction z with
    | zero => intro x h1 h2 h3; rw [show x = lo by omega]; exact h0
    | succ z ih =>
      intro x h1 h2 h3
      have := hs (x - 1) (by omega) (by omega) (ih (x - 1) (by omega) (by omega) (by omega))
      rw [show x - 1 + 1 = x by omega] at this
      exact this
  exact fun x h1 h2 => key _ x h1 h2 rfl
theorem Sm_left {f : Int → Int} {a b : Int} (h : a < b) : Sm f a b = f a + Sm f (a + 1) b := by
  have : ∀ x, a + 1 ≤ x → x ≤ b → Sm f a x = f a + Sm f (a + 1) x := by
    refine nat_ind (a + 1) b ?_ ?_
    · rw [Sm_succ (Int.le_refl a), Sm_nil (Int.le_refl a), Sm_nil (Int.le_refl (a + 1))]
      omega
    · intro x h1 h2 ih
      rw [Sm_succ (by omega), Sm_succ h1, ih]
      omega
  exact this b (by omega) (Int.le_refl b)
theorem Sm_congr {f g : Int → Int} {a b : Int} (h : ∀ j, a ≤ j → j < b → f j = g j) : Sm f a b = Sm g a b := by
  by_cases hab : a ≤ b
  · have : ∀ x, a ≤ x → x ≤ b → Sm f a x = Sm g a x := by
      refine nat_ind a b ?_ ?_
      · rw [Sm_nil (Int.le_refl a), Sm_nil (Int.le_refl a)]
      · intro x h1 h2 ih
        rw [Sm_succ h1, Sm_succ h1, ih, h x h1 h2]
    exact this b hab (Int.le_refl b)
  · rw [Sm_nil (by omega), Sm_nil (by omega)]
theorem Sm_bd {f : Int → Int} {a b c : Int} (hab : a ≤ b) (h : ∀ j, a ≤ j → j < b → 0 ≤ f j ∧ f j ≤ c) : 0 ≤ Sm f a b ∧ Sm f a b ≤ c * (b - a) := by
  have : ∀ x, a ≤ x → x ≤ b → 0 ≤ Sm f a x ∧ Sm f a x ≤ c * (x - a) := by
    refine nat_ind a b ?_ ?_
    · rw [Sm_nil (Int.le_refl a)]
      simp
    · intro x h1 h2 ih
      rw [Sm_succ h1]
      have := h x h1 h2
      have e : c * (x + 1 - a) = c * (x - a) + c := by rw [show x + 1 - a = (x - a) + 1 by omega, Int.mul_add, Int.mul_one]
      omega
  exact this b hab (Int.le_refl b)
/-- the state of any place of a walk is a world's: its script, its bits, its saved papers -/
theorem AM.w0 {Γ : GG} {d k pc : Nat} {ls : LV} {st : List AV} {m : MI} {n : ML} {post : PO} (h : m 0 = gS Γ → Bits m → Svd m → AM Γ d k pc ls st m n post) : AM Γ d k pc ls st m n post :=
  fun p e R s mm args below meth c A cells slots Q C H locs lc hW hS hL hV => h hW.2.2.1 hW.2.2.2.1 hW.2.2.2.2 p e R s mm args below meth c A cells slots Q C H locs lc hW hS hL hV
theorem CM.of0 {Γ : GG} {d k : Nat} {as : List AV} {m : MI} {n : ML} {post : PO} (hk : isS k = false) (h0 : plainName (yN k).cls = true) (ho : (yN k).cls = oN (oI k)) (hlen : (entL as).length ≤ mL k) (h : m 0 = gS Γ → Bits m → Svd m → AM Γ d k 0 (entZ k as) [] m n post) : CM Γ d k as m n post :=
  CM.of_AM h0 ho hk rfl hlen (AM.w0 h)
theorem ir {x : Int} (h1 : -2147483648 ≤ x) (h2 : x ≤ 2147483647) : InR x := ⟨h1, h2⟩
