/-! ACTS over two Worlds with the same in them: death, sell, charge -/
theorem E_hs {S S' : w_S} {dead : Int} {r : Nat → Int} {ps : List (Int × Int)} {k : Nat} (h : E_S S S') : E_S (w_hs S dead r ps k) (w_hs S' dead r ps k) := by
  refine ⟨h.1, fun i hi => ?_, h.2.2.1, h.2.2.2⟩
  have e := h.2.1 i hi
  unfold w_hs
  dsimp only
  rw [e]
theorem E_fine {S S' : w_S} {dead : Int} {r : Nat → Int} {ps : List (Int × Int)} (h : E_S S S') : d_fine S dead r ps ↔ d_fine S' dead r ps := by
  have one : ∀ {S S' : w_S}, E_S S S' → d_fine S dead r ps → d_fine S' dead r ps := fun {S S'} h ⟨i, i1, o, i2, i3⟩ =>
    ⟨i, by show (i : Int) < S'.1 0; rw [← h.1 0 (by omega)]; exact i1, o, by rw [← E_lot h i1]; exact i2, i3⟩
  exact ⟨one h, one (E_symm h)⟩
theorem E_full {S S' : w_S} {dead : Int} {r : Nat → Int} {ps : List (Int × Int)} (h : E_S S S') : d_full S dead r ps ↔ d_full S' dead r ps := by
  have one : ∀ {S S' : w_S}, E_S S S' → d_full S dead r ps → d_full S' dead r ps := fun {S S'} h ⟨i, i1, o, i2, i3⟩ =>
    ⟨i, by show (i : Int) < S'.1 0; rw [← h.1 0 (by omega)]; exact i1, o, by rw [← E_lot h i1]; exact i2, i3⟩
  exact ⟨one h, one (E_symm h)⟩
theorem E_die {V : Nat → v_D} {S S' : w_S} {r : Nat → Int} {d : Nat} (h : E_S S S') (hz : R_z S) (h0 : 0 ≤ r 0 ∧ r 0 < S.1 1) : E_O (X_die V S r d) (X_die V S' r d) := by
  unfold X_die
  rw [← h.1 0 (by omega)]
  generalize (V d).2.2.2.1 = ps
  generalize (if 0 < (V d).1 15 then r 1 else 0) = heir
  have eh : E_S (w_hs S (r 0) r ps (S.1 0).toNat) (w_hs S' (r 0) r ps (S.1 0).toNat) := E_hs h
  have hz1 : R_z (w_hs S (r 0) r ps (S.1 0).toNat) := fun s hs => hz s hs
  have em : E_S (w_map (w_hs S (r 0) r ps (S.1 0).toNat) 2 6 (t_ends (r 0) heir)) (w_map (w_hs S' (r 0) r ps (S.1 0).toNat) 2 6 (t_ends (r 0) heir)) := E_map eh hz1 (fun s t t' _ => t_eq_ends)
  have hz2 : R_z (w_map (w_hs S (r 0) r ps (S.1 0).toNat) 2 6 (t_ends (r 0) heir)) := fun s hs => hz s hs
  have hi : ((r 0).toNat : Int) < (w_map (w_hs S (r 0) r ps (S.1 0).toNat) 2 6 (t_ends (r 0) heir)).1 1 := by show ((r 0).toNat : Int) < S.1 1; omega
  have ep := E_put (k := 2) (v := 1) em hz2 (s := 1) (by omega) hi
  exact E_if Iff.rfl (E_mk h) (fun _ => E_if (E_fine h) (E_mk h) (fun _ => E_if (E_full h) (E_mk h) (fun _ => E_mk ep)))
theorem E_sell {V : Nat → v_D} {S S' : w_S} {r : Nat → Int} {d : Nat} {at_ : Int} (h : E_S S S') (hz : R_z S) (hg : w_rg S) (h0 : 0 ≤ r 0 ∧ r 0 < S.1 0) (h1 : 0 ≤ r 1 ∧ r 1 < S.1 1) : E_O (X_sell V S r d at_) (X_sell V S' r d at_) := by
  have hl : ((r 0).toNat : Int) < S.1 0 := by omega
  have el := E_lot h hl
  have hw := (hg.2 1 (r 1).toNat (by omega) (by omega) (by show (((r 1).toNat : Nat) : Int) < S.1 1; omega)).1.1
  have eq : y_q S' r = y_q S r := by unfold y_q; rw [el]
  have eT : ∀ v, y_T S' r v = y_T S r v := fun v => by unfold y_T; rw [eq]
  have eB : ∀ v u, y_B S' r v u = y_B S r v u := fun v u => by unfold y_B; rw [eq]
  have ef : ∀ ps v u, y_fin S' r ps v u = y_fin S r ps v u := fun ps v u => by unfold y_fin; rw [eT, eB, el]
  have ec : y_can S r ↔ y_can S' r := by unfold y_can; rw [el, E_abl h (by omega) hw]
  have eo : ∀ ps t v u, y_ok S r ps t v u ↔ y_ok S' r ps t v u := fun ps t v u => by unfold y_ok; rw [eT, eB, eq]
  unfold X_sell
  rw [ef, eT, eB, ← h.1 7 (by omega)]
  generalize y_fin S r (V d).2.2.2.1 ((V d).1 11) ((V d).1 12) = fin
  have e1 : E_S (w_lpt (w_ows S (r 0).toNat fin) (r 0).toNat 2 ((V d).1 9)) (w_lpt (w_ows S' (r 0).toNat fin) (r 0).toNat 2 ((V d).1 9)) := E_lpt (E_ows h hl) hl
  have hz1 : R_z (w_lpt (w_ows S (r 0).toNat fin) (r 0).toNat 2 ((V d).1 9)) := fun s hs => hz s hs
  refine E_if (by rw [ec]) (E_mk h) (fun _ => E_if (by rw [eo]) (E_mk h) (fun _ => E_if (E_bar h) (E_mk h) (fun _ => E_if Iff.rfl (E_mk h) (fun _ => E_if Iff.rfl (E_mk h) (fun c => ?_)))))
  have ew : t_eq 7 (w_sale S ((V d).2.1 0) d at_ r ((V d).1 15) (y_T S r ((V d).1 11)) (y_B S r ((V d).1 11) ((V d).1 12))) (w_sale S' ((V d).2.1 0) d at_ r ((V d).1 15) (y_T S r ((V d).1 11)) (y_B S r ((V d).1 11) ((V d).1 12))) := by
    unfold w_sale
    exact t_eq_fu (t_eq_fu (t_eq_fu (t_eq_rows (E_new h))))
  exact E_mk (E_addT e1 hz1 (s := 7) (by omega) (by show S.1 7 < 60; omega) ew)
theorem E_chst {S S' : w_S} (h : E_S S S') (hz : R_z S) {c : Nat} {cc l : Int} (hc : (c : Int) < S.1 2) (hl : (l.toNat : Int) < S.1 0) : E_S (w_chst (w_F 2 + c) cc S l) (w_chst (w_F 2 + c) cc S' l) := by
  have e2 : (S'.2.2.1 (w_F 2 + c)).2.1 = (S.2.2.1 (w_F 2 + c)).2.1 := congrArg (fun x : List Int × List Int => x.1) (E_th h (s := 2) (by omega) hc).2.symm
  unfold w_chst
  rw [e2, ← h.2.1 l.toNat hl]
  exact E_chg (E_lts h hz (by omega) hc) hl
theorem E_charge {V : Nat → v_D} {S S' : w_S} {r : Nat → Int} {d : Nat} {at_ : Int} (h : E_S S S') (hz : R_z S) (hg : w_rg S) (hl : ∀ i : Nat, 1 ≤ i → (i : Int) < (V d).1 7 - 1 → 0 ≤ r i ∧ r i < S.1 0) : E_O (X_charge V S r d at_) (X_charge V S' r d at_) := by
  unfold X_charge
  refine E_if Iff.rfl (E_mk h) (fun _ => E_if ?_ (E_mk h) (fun _ => E_if ?_ (E_mk h) (fun _ => E_if Iff.rfl (E_mk h) (fun _ => E_if ?_ (E_mk h) (fun c => E_mk ?_)))))
  · unfold c_abl
    exact not_congr ⟨fun z i i1 i2 => (E_oab h hg (by have := hl i i1 i2; omega)).mp (z i i1 i2), fun z i i1 i2 => (E_oab h hg (by have := hl i i1 i2; omega)).mpr (z i i1 i2)⟩
  · unfold c_bar
    exact ⟨fun ⟨i, i1, i2, i3⟩ => ⟨i, i1, i2, (E_bar h).mp i3⟩, fun ⟨i, i1, i2, i3⟩ => ⟨i, i1, i2, (E_bar h).mpr i3⟩⟩
  · unfold c_ful
    show 40 ≤ S.1 2 ∨ _ ↔ 40 ≤ S'.1 2 ∨ _
    rw [h.1 2 (by omega)]
    refine or_congr Iff.rfl ⟨fun ⟨i, i1, i2, i3⟩ => ⟨i, i1, i2, ?_⟩, fun ⟨i, i1, i2, i3⟩ => ⟨i, i1, i2, ?_⟩⟩
    · rw [← E_lot h (by have := hl i i1 i2; omega)]; exact i3
    · rw [E_lot h (by have := hl i i1 i2; omega)]; exact i3
  · have c2 : S.1 2 < 40 := Int.not_le.mp (fun z => c (Or.inl z))
    have z2 := hz 2 (by omega)
    have e0 : t_eq 2 (s_fu (s_fu (w_new S 2 ((V d).2.1 0) d at_).1 5 (r ((V d).1 7 - 1).toNat)) 6 ((V d).1 9), [], []) (s_fu (s_fu (w_new S' 2 ((V d).2.1 0) d at_).1 5 (r ((V d).1 7 - 1).toNat)) 6 ((V d).1 9), [], []) := t_eq_fu (t_eq_fu (t_eq_rows (E_new h)))
    have ea := E_addT h hz (s := 2) (by omega) (by show S.1 2 < 40; exact c2) e0
    have key : ∀ (ls : List Int) (Y Y' : w_S), E_S Y Y' → Y.1 = (w_addT S 2 (s_fu (s_fu (w_new S 2 ((V d).2.1 0) d at_).1 5 (r ((V d).1 7 - 1).toNat)) 6 ((V d).1 9), [], [])).1 → (∀ l ∈ ls, (l.toNat : Int) < S.1 0) → E_S (ls.foldl (w_chst (w_F 2 + (S.1 2).toNat) (S.1 2)) Y) (ls.foldl (w_chst (w_F 2 + (S.1 2).toNat) (S.1 2)) Y') := by
      intro ls
      induction ls with
      | nil => exact fun Y Y' hY _ _ => hY
      | cons x ls ih =>
        intro Y Y' hY eY hx
        have s2 : Y.1 2 = S.1 2 + 1 := by rw [eY, w_z_add, if_pos rfl]
        have s0 : Y.1 0 = S.1 0 := by rw [eY, w_z_add, if_neg (by omega)]
        have hzY : R_z Y := fun s hs => by
          rw [eY, w_z_add]
          have := hz s hs
          split
          · next e => subst e; have : w_mx 2 = 40 := rfl; omega
          · exact this
        exact ih _ _ (E_chst hY hzY (by omega) (by rw [s0]; exact hx x List.mem_cons_self)) eY (fun l hl => hx l (List.mem_cons_of_mem _ hl))
    unfold w_charge
    rw [← h.1 2 (by omega)]
    refine key _ _ _ ea rfl (fun l hm => ?_)
    obtain ⟨i, i1, i2⟩ := s_ar_mem.mp hm
    have := hl (i + 1) (by omega) (by omega)
    rw [← i2]; omega
