/-! ACTS over two Worlds with the same in them: split, join, border -/
theorem t_eq_spl {P : Nat → s_Fig} {old a b day : Int} {L R : s_Fig} {s : Nat} {t t' : w_T} (h : t_eq t t') : t_eq (t_spl P old a b day L R s t) (t_spl P old a b day L R s t') := by
  unfold t_spl
  rw [← t_eq_thr h, ← h.2, ← t_eq_s h (k := 11) (by omega)]
  split
  · exact t_eq_rows h
  · exact h
theorem t_eq_mrg {one other into day : Int} {s : Nat} {t t' : w_T} (h : t_eq t t') : t_eq (t_mrg one other into day s t) (t_mrg one other into day s t') := by
  unfold t_mrg
  rw [← t_eq_thr h, ← h.2]
  split
  · split
    · exact t_eq_fu (t_eq_rows h)
    · exact t_eq_rows h
  · exact h
theorem E_tm {P : Nat → s_Fig} {S S' : w_S} {old : Int} {L R : s_Fig} (h : E_S S S') : w_tm P S old L R ↔ w_tm P S' old L R := by
  have one : ∀ {S S' : w_S}, E_S S S' → w_tm P S old L R → w_tm P S' old L R := fun {S S'} h ⟨s, i, s1, s2, i1, i2, i3⟩ => by
    have e := E_th h (s := s) (by omega) i1
    refine ⟨s, i, s1, s2, by rw [show w_z S' s = w_z S s from (h.1 s (by omega)).symm]; exact i1, by rw [← E_thr h (by omega) i1]; exact i2, ?_⟩
    rw [← e.2, ← t_eq_s e (k := 11) (by omega)]
    exact i3
  exact ⟨one h, one (E_symm h)⟩
theorem E_lost {P : Nat → s_Fig} {S S' : w_S} {a b : Int} {L R : s_Fig} (h : E_S S S') : w_lost P S a b L R ↔ w_lost P S' a b L R := by
  have one : ∀ {S S' : w_S}, E_S S S' → w_lost P S a b L R → w_lost P S' a b L R := fun {S S'} h ⟨i, i1, i2, i3⟩ => by
    have e := E_th h (s := 3) (by omega) i1
    refine ⟨i, by rw [show w_z S' 3 = w_z S 3 from (h.1 3 (by omega)).symm]; exact i1, by rw [← E_thr h (by omega) i1]; exact i2, ?_⟩
    unfold t_lost at i3 ⊢
    rw [← e.2, ← t_eq_s e (k := 11) (by omega)]
    exact i3
  exact ⟨one h, one (E_symm h)⟩
