-- the reference makes an edition
noncomputable def heldN (V : Nat → Int → Int) : Int := SmA (fun i => if (rsL V i).length = 0 then 1 else 0) V
theorem rs_stay {V : Nat → Int → Int} {i y : Int} (ia : ahV V i = y) (h : StyS V (tkF V y.toNat) i) : rsL V i = oldL V i := by
  unfold rsL nwL
  rw [ia, if_pos h]
theorem rs_new {V : Nat → Int → Int} {i y : Int} (ia : ahV V i = y) (h : ¬ StyS V (tkF V y.toNat) i) : rsL V i = placeF V (tkF V y.toNat) i := by
  unfold rsL nwL
  rw [ia, if_neg h]
