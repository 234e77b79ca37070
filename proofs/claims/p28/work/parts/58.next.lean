theorem heldN_bd {V : Nat → Int → Int} (h : 0 ≤ V 3 3 ∧ V 3 3 ≤ 12) : 0 ≤ heldN V ∧ heldN V ≤ 12 := by
  have b := Sm_bd (f := fun i => if V 8 i = 0 then 0 else if (rsL V i).length = 0 then 1 else 0) (a := 0) (b := V 3 3) (c := 1) h.1 (fun j _ _ => by split; omega; split <;> omega)
  have e : heldN V = Sm (fun i => if V 8 i = 0 then 0 else if (rsL V i).length = 0 then 1 else 0) 0 (V 3 3) := rfl
  rw [← e] at b
  omega
theorem frN_bd {T : Int → Int → Prop} {P K H : Int} (hP : 0 ≤ P ∧ P ≤ 5) (hK : 0 ≤ K ∧ K ≤ 4) (hH : 0 ≤ H ∧ H ≤ 60) : 0 ≤ frN T P K H ∧ frN T P K H ≤ 1200 := by
  have a : ∀ p c, 0 ≤ Sm (fun l => @ite Int (T (p * 4 + c) l) (Classical.propDecidable _) 0 1) 0 H ∧ Sm (fun l => @ite Int (T (p * 4 + c) l) (Classical.propDecidable _) 0 1) 0 H ≤ 60 := fun p c => by
    have := Sm_bd (f := fun l => @ite Int (T (p * 4 + c) l) (Classical.propDecidable _) 0 1) (a := 0) (b := H) (c := 1) hH.1 (fun j _ _ => by split <;> omega)
    omega
  have b : ∀ p, 0 ≤ Sm (fun c => Sm (fun l => @ite Int (T (p * 4 + c) l) (Classical.propDecidable _) 0 1) 0 H) 0 K ∧ Sm (fun c => Sm (fun l => @ite Int (T (p * 4 + c) l) (Classical.propDecidable _) 0 1) 0 H) 0 K ≤ 240 := fun p => by
    have := Sm_bd (f := fun c => Sm (fun l => @ite Int (T (p * 4 + c) l) (Classical.propDecidable _) 0 1) 0 H) (a := 0) (b := K) (c := 60) hK.1 (fun j _ _ => a p j)
    omega
  have c := Sm_bd (f := fun p => Sm (fun c => Sm (fun l => @ite Int (T (p * 4 + c) l) (Classical.propDecidable _) 0 1) 0 H) 0 K) (a := 0) (b := P) (c := 240) hP.1 (fun j _ _ => b j)
  have e : frN T P K H = Sm (fun p => Sm (fun c => Sm (fun l => @ite Int (T (p * 4 + c) l) (Classical.propDecidable _) 0 1) 0 H) 0 K) 0 P := rfl
  rw [← e] at c
  omega
