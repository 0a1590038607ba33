/-! what a DEED comes to over two Worlds with the same in them -/
theorem E_set {S S' : w_S} {x : Int} (h : E_S S S') : E_S (d_set S x) (d_set S' x) := ⟨h.1, h.2.1, h.2.2.1, rfl⟩
theorem E_nm {S S' : w_S} (h : E_S S S') {s i : Nat} (hs : s < 8) (hi : (i : Int) < S.1 s) : w_nm S s i = w_nm S' s i := by
  unfold w_nm
  split
  · next e => subst e; rw [E_lot h hi]
  · exact t_eq_s (E_th h (by omega) hi) (by omega)
theorem E_fit {S S' : w_S} (h : E_S S S') {v : Int} {s i : Nat} (hs : s < 7) (hi : (i : Int) < S.1 s) : n_fit S v s i = n_fit S' v s i := by
  unfold n_fit
  rw [← E_thr h (by omega) hi]
  by_cases e : s = 1
  · subst e
    rw [← t_eq_s (E_th h (s := 1) (by omega) hi) (k := 7) (by omega)]
  · simp only [e, decide_false, Bool.false_and]
theorem E_nat {S S' : w_S} {nm wt : Nat → Int} {R : Nat → Nat × Nat} {k : Nat} (h : E_S S S') (a : n_at S nm wt R k) : n_at S' nm wt R k := by
  unfold n_at at *
  split
  · next e =>
    rw [if_pos e] at a
    refine ⟨fun s i s7 hi => ?_, a.2⟩
    rw [show w_z S' s = w_z S s from (h.1 s (by omega)).symm] at hi
    rw [← E_nm h (by omega) hi]
    exact a.1 s i s7 hi
  · next e =>
    rw [if_neg e] at a
    obtain ⟨⟨a1, a2⟩, a3, a4⟩ := a
    refine ⟨⟨a1, ?_⟩, ?_, ?_⟩
    · rw [show w_z S' (R k).1 = w_z S (R k).1 from (h.1 _ (by omega)).symm]; exact a2
    · rw [← E_nm h (by omega) a2]; exact a3
    · rw [← E_fit h a1 a2]; exact a4
theorem E_nok {S S' : w_S} {nm wt : Nat → Int} {told : Int} {R : Nat → Nat × Nat} (h : E_S S S') (a : n_ok S nm wt told R) : n_ok S' nm wt told R := fun k hk => E_nat h (a k hk)
