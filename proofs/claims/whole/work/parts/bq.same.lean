/-! what comes of a DEED over two Worlds with the same in them -/
theorem X_die_c {V : Nat → v_D} {S : w_S} {r r' : Nat → Int} {d : Nat} (h7 : (V d).1 7 = (V d).1 15 + 1) (hp : (((V d).2.2.2.1).length : Int) = (V d).1 15) (h : ∀ k : Nat, (k : Int) < (V d).1 7 → r k = r' k) : X_die V S r d = X_die V S r' d := by
  have h0 := h 0 (by omega)
  have m := a_mixed_c (r := r) (r' := r') (f := 1) (told := (V d).1 7) (p := r' 0) (fun k _ k2 => h k k2)
  have el : ∀ l : w_L, l_heir l (r' 0) r (V d).2.2.2.1 = l_heir l (r' 0) r' (V d).2.2.2.1 := fun l => by
    have : (fun q => o_heirs l.2.2.2 q (r' 0) r (V d).2.2.2.1) = (fun q => o_heirs l.2.2.2 q (r' 0) r' (V d).2.2.2.1) := funext fun q => by
      unfold o_heirs
      exact o_pts_c (fun i i1 i2 => h i (by omega))
    unfold l_heir
    rw [this]
  have e1 : d_fine S (r' 0) r (V d).2.2.2.1 = d_fine S (r' 0) r' (V d).2.2.2.1 := by unfold d_fine; simp only [el]
  have e2 : d_full S (r' 0) r (V d).2.2.2.1 = d_full S (r' 0) r' (V d).2.2.2.1 := by unfold d_full; simp only [el]
  have e3 : w_hs S (r' 0) r (V d).2.2.2.1 (S.1 0).toNat = w_hs S (r' 0) r' (V d).2.2.2.1 (S.1 0).toNat := by unfold w_hs; simp only [el]
  have e4 : (if 0 < (V d).1 15 then r 1 else 0) = (if 0 < (V d).1 15 then r' 1 else 0) := by
    split
    · exact h 1 (by omega)
    · rfl
  unfold X_die
  rw [h0, e1, e2, e3, e4, show a_mixed r 1 ((V d).1 7) (r' 0) = a_mixed r' 1 ((V d).1 7) (r' 0) from propext m]
