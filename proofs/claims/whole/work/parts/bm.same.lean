/-! ACTS over two Worlds with the same in them: split, join, border -/
theorem t_eq_spl {P : Nat → s_Fig} {old a b day : Int} {L R : s_Fig} {s : Nat} {t t' : w_T} (hs : 2 ≤ s) (h : t_eq s t t') : t_eq s (t_spl P old a b day L R s t) (t_spl P old a b day L R s t') := by
  unfold t_spl
  rw [← t_eq_thr h, ← h.2, ← t_eq_s h (k := 11) (by omega)]
  split
  · exact t_eq_rows h
  · exact h
theorem t_eq_mrg {one other into day : Int} {s : Nat} {t t' : w_T} (h : t_eq s t t') : t_eq s (t_mrg one other into day s t) (t_mrg one other into day s t') := by
  unfold t_mrg
  rw [← t_eq_thr h, ← h.2]
  split
  · split
    · exact t_eq_fu (t_eq_rows h)
    · exact t_eq_rows h
  · exact h
theorem E_tm {P : Nat → s_Fig} {S S' : w_S} {old : Int} {L R : s_Fig} (h : E_S S S') : w_tm P S old L R ↔ w_tm P S' old L R := by
  have one : ∀ {S S' : w_S}, E_S S S' → w_tm P S old L R → w_tm P S' old L R := fun {S S'} h ⟨s, i, s1, s2, i1, i2, i3⟩ => by
    have e := E_th h (s := s) (by omega) i1
    refine ⟨s, i, s1, s2, by rw [show w_z S' s = w_z S s from (h.1 s (by omega)).symm]; exact i1, by rw [← E_thr h (by omega) i1]; exact i2, ?_⟩
    rw [← e.2, ← t_eq_s e (k := 11) (by omega)]
    exact i3
  exact ⟨one h, one (E_symm h)⟩
theorem E_lost {P : Nat → s_Fig} {S S' : w_S} {a b : Int} {L R : s_Fig} (h : E_S S S') : w_lost P S a b L R ↔ w_lost P S' a b L R := by
  have one : ∀ {S S' : w_S}, E_S S S' → w_lost P S a b L R → w_lost P S' a b L R := fun {S S'} h ⟨i, i1, i2, i3⟩ => by
    have e := E_th h (s := 3) (by omega) i1
    refine ⟨i, by rw [show w_z S' 3 = w_z S 3 from (h.1 3 (by omega)).symm]; exact i1, by rw [← E_thr h (by omega) i1]; exact i2, ?_⟩
    unfold t_lost at i3 ⊢
    rw [← e.2, ← t_eq_s e (k := 11) (by omega)]
    exact i3
  exact ⟨one h, one (E_symm h)⟩
theorem E_both {S S' : w_S} {s : Nat} {a b : Int} (h : E_S S S') (hs : 1 ≤ s ∧ s < 8) : w_both S s a b ↔ w_both S' s a b := by
  have one : ∀ {S S' : w_S}, E_S S S' → w_both S s a b → w_both S' s a b := fun {S S'} h hb i i1 i2 => by
    rw [show w_z S' s = w_z S s from (h.1 s (by omega)).symm] at i1
    have e := E_th h hs i1
    rw [← E_thr h (by omega) i1] at i2
    rw [← e.2]
    exact hb i i1 i2
  exact ⟨one h, one (E_symm h)⟩
theorem R_z_addL {S : w_S} {x : w_L} (hz : R_z S) (hf : S.1 0 < 80) : R_z (w_addL S x) := fun s hs => by
  have := hz s hs
  show 0 ≤ s_fu S.1 0 (S.1 0 + 1) s ∧ s_fu S.1 0 (S.1 0 + 1) s ≤ w_mx s
  unfold s_fu
  split
  · next e => subst e; have := hz 0 (by omega); refine ⟨by omega, ?_⟩; show _ ≤ ((80 : Nat) : Int); omega
  · exact this
theorem E_split {V : Nat → v_D} {S S' : w_S} {r : Nat → Int} {d : Nat} (h : E_S S S') (hz : R_z S) (hg : w_rg S) (h0 : 0 ≤ r 0 ∧ r 0 < S.1 0) : E_O (X_split V S r d) (X_split V S' r d) := by
  have hi : ((r 0).toNat : Int) < S.1 0 := by omega
  unfold X_split
  rw [← E_lot h hi, ← h.1 0 (by omega), ← h.2.2.2]
  refine E_if (not_congr (E_oab h hg hi)) (E_mk h) (fun _ => E_if (E_bar h) (E_mk h) (fun _ => E_if Iff.rfl (E_mk h) (fun _ => E_if (or_congr Iff.rfl (E_tm h)) (E_mk h) (fun c => E_mk ?_))))
  have hf : S.1 0 ≤ 78 := Int.not_lt.mp (fun x => c (Or.inl x))
  have z1 := R_z_addL (x := l_mk ((V d).2.1 1) (w_l S (r 0).toNat) (g_cls (g_rawL (w_l S (r 0).toNat).2.1 (V d).2.2.2.2))) hz (by omega)
  have e1 := E_addL (x := l_mk ((V d).2.1 1) (w_l S (r 0).toNat) (g_cls (g_rawL (w_l S (r 0).toNat).2.1 (V d).2.2.2.2))) h hz
  have e2 := E_addL (x := l_mk ((V d).2.1 2) (w_l S (r 0).toNat) (g_cls (g_rawR (w_l S (r 0).toNat).2.1 (V d).2.2.2.2))) e1 z1
  have z2 := R_z_addL (x := l_mk ((V d).2.1 2) (w_l S (r 0).toNat) (g_cls (g_rawR (w_l S (r 0).toNat).2.1 (V d).2.2.2.2))) z1 (by show S.1 0 + 1 < 80; omega)
  exact E_map (E_lpt e2 (by show ((r 0).toNat : Int) < S.1 0 + 1 + 1; omega)) (fun s hs => z2 s hs) (fun s t t' hs ht => t_eq_spl hs ht)
theorem E_join {V : Nat → v_D} {S S' : w_S} {r : Nat → Int} {d : Nat} (h : E_S S S') (hz : R_z S) (hg : w_rg S) (h0 : 0 ≤ r 0 ∧ r 0 < S.1 0) (h1 : 0 ≤ r 1 ∧ r 1 < S.1 0) : E_O (X_join V S r d) (X_join V S' r d) := by
  have hi : ((r 0).toNat : Int) < S.1 0 := by omega
  have hj : ((r 1).toNat : Int) < S.1 0 := by omega
  unfold X_join
  rw [← E_lot h hi, ← E_lot h hj]
  refine E_if Iff.rfl (E_mk h) (fun _ => E_if (not_congr (and_congr (E_oab h hg hi) (E_oab h hg hj))) (E_mk h) (fun _ => E_if Iff.rfl (E_mk h) (fun _ => E_if (or_congr (E_bar h) (E_bar h)) (E_mk h) (fun _ => E_if (not_congr (and_congr Iff.rfl (and_congr (E_both h (by omega)) (E_both h (by omega))))) (E_mk h) (fun _ => ?_)))))
  cases g_jraw (w_l S (r 0).toNat).2.1 (w_l S (r 1).toNat).2.1 with
  | none => exact E_mk h
  | some R =>
    show E_O (X_join2 V S r d R) (X_join2 V S' r d R)
    unfold X_join2
    rw [← E_lot h hi, ← h.1 0 (by omega), ← h.2.2.2]
    refine E_if Iff.rfl (E_mk h) (fun _ => E_if Iff.rfl (E_mk h) (fun c => E_mk ?_))
    have z1 := R_z_addL (x := l_mk ((V d).2.1 2) (w_l S (r 0).toNat) (g_cls R)) hz (by omega)
    have e1 := E_addL (x := l_mk ((V d).2.1 2) (w_l S (r 0).toNat) (g_cls R)) h hz
    exact E_map (E_lpt (E_lpt e1 (by show ((r 0).toNat : Int) < S.1 0 + 1; omega)) (by show ((r 1).toNat : Int) < S.1 0 + 1; omega)) (fun s hs => z1 s hs) (fun s t t' _ ht => t_eq_mrg ht)
theorem E_border {V : Nat → v_D} {S S' : w_S} {r : Nat → Int} {d : Nat} (h : E_S S S') (hg : w_rg S) (h0 : 0 ≤ r 0 ∧ r 0 < S.1 0) (h1 : 0 ≤ r 1 ∧ r 1 < S.1 0) : E_O (X_border V S r d) (X_border V S' r d) := by
  have hi : ((r 0).toNat : Int) < S.1 0 := by omega
  have hj : ((r 1).toNat : Int) < S.1 0 := by omega
  unfold X_border
  rw [← E_lot h hi, ← E_lot h hj]
  refine E_if Iff.rfl (E_mk h) (fun _ => E_if (not_congr (and_congr (E_oab h hg hi) (E_oab h hg hj))) (E_mk h) (fun _ => E_if (or_congr (E_bar h) (E_bar h)) (E_mk h) (fun _ => ?_)))
  cases g_jraw (w_l S (r 0).toNat).2.1 (w_l S (r 1).toNat).2.1 with
  | none => exact E_mk h
  | some R =>
    show E_O (X_border2 V S r d R) (X_border2 V S' r d R)
    unfold X_border2
    exact E_if Iff.rfl (E_mk h) (fun _ => E_if (E_lost h) (E_mk h) (fun _ => E_mk (E_fgs (E_fgs h hi) hj)))
