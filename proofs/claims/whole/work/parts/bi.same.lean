/-! ACTS over two Worlds with the same in them -/
def E_O (x y : Int × w_S) : Prop := x.1 = y.1 ∧ E_S x.2 y.2
theorem E_if {P P' : Prop} {a a' b b' : Int × w_S} (hp : P ↔ P') (ha : E_O a a') (hb : ¬ P → E_O b b') : E_O (c_if P a b) (c_if P' a' b') := by
  by_cases c : P
  · rw [c_if_pos c, c_if_pos (hp.mp c)]; exact ha
  · rw [c_if_neg c, c_if_neg (fun z => c (hp.mpr z))]; exact hb c
theorem E_mk {c : Int} {S S' : w_S} (h : E_S S S') : E_O (c, S) (c, S') := ⟨rfl, h⟩
theorem E_new {S S' : w_S} (h : E_S S S') {s : Nat} {called d at_ : Int} : t_eq s (w_new S s called d at_) (w_new S' s called d at_) := by
  refine ⟨fun k k1 k2 k3 _ => ?_, rfl⟩
  show s_fu (t_new called d at_ _) 4 S.2.2.2 k = s_fu (t_new called d at_ _) 4 S'.2.2.2 k
  rw [h.2.2.2]
  unfold s_fu
  split
  · rfl
  · unfold t_new
    have : k = 0 ∨ k = 1 ∨ k = 2 ∨ k = 3 ∨ k = 4 ∨ k = 5 ∨ k = 6 ∨ k = 7 ∨ k = 8 ∨ k = 11 ∨ k = 12 ∨ k = 13 := by omega
    rcases this with rfl | rfl | rfl | rfl | rfl | rfl | rfl | rfl | rfl | rfl | rfl | rfl <;> rfl
theorem t_eq_fu {s : Nat} {f f' : Nat → Int} {k : Nat} {v : Int} {r : List Int × List Int} (h : t_eq s (f, r) (f', r)) : t_eq s (s_fu f k v, r) (s_fu f' k v, r) := t_eq_put h
theorem t_eq_rows {s : Nat} {t t' : w_T} (h : t_eq s t t') {r : List Int × List Int} : t_eq s (t.1, r) (t'.1, r) := ⟨h.1, rfl⟩
theorem E_dels {c : Int} : ∀ {ls : List Int} {S S' : w_S}, E_S S S' → (∀ l ∈ ls, (l.toNat : Int) < S.1 0) → E_S (w_dels S c ls) (w_dels S' c ls)
  | [], _, _, h, _ => h
  | l :: ls, S, S', h, hl => by
    have h0 := hl l List.mem_cons_self
    have e : E_S (w_chg S l.toNat (r_del (S.2.1 l.toNat).2.2.1 c)) (w_chg S' l.toNat (r_del (S'.2.1 l.toNat).2.2.1 c)) := by
      rw [← h.2.1 l.toNat h0]
      exact E_chg h h0
    exact E_dels (ls := ls) e (fun x hx => hl x (List.mem_cons_of_mem _ hx))
theorem E_endc {S S' : w_S} (h : E_S S S') (hz : R_z S) {c : Nat} (hc : (c : Int) < S.1 2) (hl : ∀ l ∈ (w_t S 2 c).2.1, (l.toNat : Int) < S.1 0) : E_S (w_endc S c) (w_endc S' c) := by
  have e := E_th h (s := 2) (by omega) hc
  have e2 : (S'.2.2.1 (w_F 2 + c)).2.1 = (S.2.2.1 (w_F 2 + c)).2.1 := congrArg (fun x : List Int × List Int => x.1) e.2.symm
  unfold w_endc
  rw [e2]
  have d := E_dels (c := (c : Int)) h hl
  have dz : (w_dels S c (S.2.2.1 (w_F 2 + c)).2.1).1 = S.1 := (w_dels_t (c := (c : Int)) (ls := (S.2.2.1 (w_F 2 + c)).2.1) (S := S)).2
  have hz1 : R_z (w_dels S c (S.2.2.1 (w_F 2 + c)).2.1) := by unfold R_z; rw [dz]; exact hz
  have hc1 : (c : Int) < (w_dels S c (S.2.2.1 (w_F 2 + c)).2.1).1 2 := by rw [dz]; exact hc
  exact E_put (E_lts d hz1 (by omega) hc1) hz1 (by omega) hc1
theorem E_leave {S S' : w_S} (h : E_S S S') (hz : R_z S) {s i : Nat} {l : Int} (hs : 1 ≤ s ∧ s < 8) (hi : (i : Int) < S.1 s) : E_S (w_leave S (w_F s + i) l) (w_leave S' (w_F s + i) l) := by
  have e2 : (S'.2.2.1 (w_F s + i)).2.1 = (S.2.2.1 (w_F s + i)).2.1 := congrArg (fun x : List Int × List Int => x.1) (E_th h hs hi).2.symm
  unfold w_leave
  rw [e2]
  split
  · exact E_put (E_lts h hz hs hi) hz hs hi
  · exact E_lts h hz hs hi
theorem E_free {S S' : w_S} (h : E_S S S') (hz : R_z S) {l c : Nat} (hl : (l : Int) < S.1 0) (hc : (c : Int) < S.1 2) : E_S (w_free S l c) (w_free S' l c) := by
  unfold w_free
  rw [← h.2.1 l hl]
  exact E_leave (E_chg h hl) hz (by omega) hc
theorem t_eq_ends {dead heir : Int} {s : Nat} {t t' : w_T} (h : t_eq s t t') : t_eq s (t_ends dead heir s t) (t_ends dead heir s t') := by
  unfold t_ends
  rw [← t_eq_s h (k := 5) (by omega)]
  split
  · split
    · exact t_eq_put h
    · exact t_eq_put h
  · exact h
theorem E_person {V : Nat → v_D} {S S' : w_S} {d : Nat} {at_ : Int} (h : E_S S S') (hz : R_z S) : E_O (X_person V S d at_) (X_person V S' d at_) := by
  unfold X_person
  refine E_if Iff.rfl (E_mk h) (fun _ => E_if (by rw [h.1 1 (by omega)]) (E_mk h) (fun c => E_mk (E_addT h hz (by omega) (by show S.1 1 < 40; omega) ?_)))
  exact t_eq_fu (t_eq_fu (t_eq_rows (E_new h)))
theorem E_firm {V : Nat → v_D} {S S' : w_S} {r : Nat → Int} {d : Nat} {at_ : Int} (h : E_S S S') (hz : R_z S) (h1 : 0 ≤ r 1 ∧ r 1 < S.1 1) : E_O (X_firm V S r d at_) (X_firm V S' r d at_) := by
  unfold X_firm
  refine E_if (by rw [E_age h (p := (r 1).toNat) (by omega)]) (E_mk h) (fun _ => E_if (by rw [h.1 1 (by omega)]) (E_mk h) (fun c => E_mk (E_addT h hz (by omega) (by show S.1 1 < 40; omega) ?_)))
  exact t_eq_fu (t_eq_fu (t_eq_fu (t_eq_rows (E_new h))))
theorem E_guard {S S' : w_S} {r : Nat → Int} (h : E_S S S') (hz : R_z S) (h0 : 0 ≤ r 0 ∧ r 0 < S.1 1) (h1 : 0 ≤ r 1 ∧ r 1 < S.1 1) : E_O (X_guard S r) (X_guard S' r) := by
  unfold X_guard
  exact E_if (by rw [E_age h (p := (r 0).toNat) (by omega)]) (E_mk h) (fun _ => E_if (by rw [E_age h (p := (r 1).toNat) (by omega)]) (E_mk h) (fun c => E_mk (E_put h hz (by omega) (by omega))))
theorem E_close {S S' : w_S} {r : Nat → Int} (h : E_S S S') (hz : R_z S) (h0 : 0 ≤ r 0 ∧ r 0 < S.1 1) : E_O (X_close S r) (X_close S' r) := by
  unfold X_close
  have hz2 : R_z (w_map S 2 6 (t_ends (r 0) 0)) := fun s hs => hz s hs
  have em : E_S (w_map S 2 6 (t_ends (r 0) 0)) (w_map S' 2 6 (t_ends (r 0) 0)) := E_map h hz (fun s t t' _ => t_eq_ends)
  have hi : ((r 0).toNat : Int) < (w_map S 2 6 (t_ends (r 0) 0)).1 1 := by show ((r 0).toNat : Int) < S.1 1; omega
  have ep := E_put (k := 2) (v := 1) em hz2 (s := 1) (by omega) hi
  exact E_if (by rw [E_busyL h, E_busyT h]) (E_mk h) (fun c => E_mk ep)
theorem E_assign {S S' : w_S} {r : Nat → Int} (h : E_S S S') (hz : R_z S) (hg : w_rg S) (h0 : 0 ≤ r 0 ∧ r 0 < S.1 2) : E_O (X_assign S r) (X_assign S' r) := by
  have hi : ((r 0).toNat : Int) < S.1 2 := by omega
  have e := E_th h (s := 2) (by omega) hi
  have hrt := (hg.2 2 (r 0).toNat (by omega) (by omega) hi).1
  have hwho : 0 ≤ (w_t S 2 (r 0).toNat).1 5 ∧ (w_t S 2 (r 0).toNat).1 5 < S.1 1 := ⟨hrt.2 (by omega) (by omega), hrt.1⟩
  have hww := (hg.2 1 ((w_t S 2 (r 0).toNat).1 5).toNat (by omega) (by omega) (by show ((((w_t S 2 (r 0).toNat).1 5).toNat : Nat) : Int) < S.1 1; omega)).1.1
  unfold X_assign
  rw [← t_eq_s e (k := 5) (by omega)]
  exact E_if (by rw [E_abl h (by omega) hww]) (E_mk h) (fun _ => E_if Iff.rfl (E_mk h) (fun c => E_mk (E_put h hz (by omega) hi)))
theorem E_end {S S' : w_S} {ss r : Nat → Int} (h : E_S S S') (hz : R_z S) (hg : w_rg S) (hs : 4 ≤ ss 0 ∧ ss 0 ≤ 6) (h0 : 0 ≤ r 0 ∧ r 0 < S.1 (ss 0).toNat) : E_O (X_end S ss r) (X_end S' ss r) := by
  have hi : ((r 0).toNat : Int) < S.1 (ss 0).toNat := by omega
  have e := E_th h (s := (ss 0).toNat) (by omega) hi
  have hrt := (hg.2 (ss 0).toNat (r 0).toNat (by omega) (by omega) hi).1
  have hwho : 0 ≤ (w_t S (ss 0).toNat (r 0).toNat).1 5 ∧ (w_t S (ss 0).toNat (r 0).toNat).1 5 < S.1 1 := ⟨hrt.2 (by omega) (by omega), hrt.1⟩
  have hww := (hg.2 1 ((w_t S (ss 0).toNat (r 0).toNat).1 5).toNat (by omega) (by omega) (by show ((((w_t S (ss 0).toNat (r 0).toNat).1 5).toNat : Nat) : Int) < S.1 1; omega)).1.1
  unfold X_end
  rw [← t_eq_s e (k := 5) (by omega)]
  exact E_if (by rw [E_abl h (by omega) hww]) (E_mk h) (fun _ => E_mk (E_put h hz (by omega) hi))
theorem E_waive {S S' : w_S} {r : Nat → Int} (h : E_S S S') (hz : R_z S) (hg : w_rg S) (h0 : 0 ≤ r 0 ∧ r 0 < S.1 3) : E_O (X_waive S r) (X_waive S' r) := by
  have hi : ((r 0).toNat : Int) < S.1 3 := by omega
  have e := E_th h (s := 3) (by omega) hi
  have hls := (hg.2 3 (r 0).toNat (by omega) (by omega) hi).2.1
  unfold X_waive
  rw [← e.2]
  refine E_if ⟨fun ⟨l, l1, l2⟩ => ⟨l, l1, ?_⟩, fun ⟨l, l1, l2⟩ => ⟨l, l1, ?_⟩⟩ (E_mk h) (fun _ => E_mk (E_put h hz (by omega) hi))
  · have b := hls l l1
    change 0 ≤ l ∧ l < S.1 0 at b
    exact fun z => l2 ((E_oab h hg (by omega)).mpr z)
  · have b := hls l l1
    change 0 ≤ l ∧ l < S.1 0 at b
    exact fun z => l2 ((E_oab h hg (by omega)).mp z)
theorem E_rank {S S' : w_S} {r : Nat → Int} (h : E_S S S') (h2 : 0 ≤ r 2 ∧ r 2 < S.1 0) : E_O (X_rank S r) (X_rank S' r) := by
  have hi : ((r 2).toNat : Int) < S.1 0 := by omega
  unfold X_rank
  rw [← E_lot h hi]
  exact E_if Iff.rfl (E_mk h) (fun _ => E_mk (E_chg h hi))
theorem E_freed {S S' : w_S} {r : Nat → Int} (h : E_S S S') (hz : R_z S) (h0 : 0 ≤ r 0 ∧ r 0 < S.1 0) (h1 : 0 ≤ r 1 ∧ r 1 < S.1 2) : E_O (X_free S r) (X_free S' r) := by
  have hi : ((r 0).toNat : Int) < S.1 0 := by omega
  unfold X_free
  rw [← E_lot h hi]
  exact E_if Iff.rfl (E_mk h) (fun _ => E_mk (E_free h hz hi (by omega)))
theorem E_pay {V : Nat → v_D} {S S' : w_S} {r : Nat → Int} {d : Nat} (h : E_S S S') (hz : R_z S) (hg : w_rg S) (h0 : 0 ≤ r 0 ∧ r 0 < S.1 2) : E_O (X_pay V S r d) (X_pay V S' r d) := by
  have hi : ((r 0).toNat : Int) < S.1 2 := by omega
  have e := E_th h (s := 2) (by omega) hi
  have hls := (hg.2 2 (r 0).toNat (by omega) (by omega) hi).2.1
  unfold X_pay
  rw [← t_eq_s e (k := 6) (by omega)]
  refine E_if Iff.rfl (E_mk h) (fun _ => E_if Iff.rfl (E_mk (E_put h hz (by omega) hi)) (fun _ => E_mk (E_endc (E_put h hz (by omega) hi) hz hi (fun l hl => ?_))))
  have el : (w_t (w_put S (w_F 2 + (r 0).toNat) 6 0) 2 (r 0).toNat).2.1 = (w_t S 2 (r 0).toNat).2.1 := by
    have : w_t (w_put S (w_F 2 + (r 0).toNat) 6 0) 2 (r 0).toNat = (s_fu (w_t S 2 (r 0).toNat).1 6 0, (w_t S 2 (r 0).toNat).2) := (s_fu_eq : s_fu S.2.2.1 (w_F 2 + (r 0).toNat) (s_fu (S.2.2.1 (w_F 2 + (r 0).toNat)).1 6 0, (S.2.2.1 (w_F 2 + (r 0).toNat)).2) (w_F 2 + (r 0).toNat) = _)
    rw [this]
  rw [el] at hl
  have b := hls l hl
  change 0 ≤ l ∧ l < S.1 0 at b
  show (l.toNat : Int) < S.1 0
  omega
theorem E_term {S S' : w_S} (h : E_S S S') {s : Nat} {called d at_ l p u : Int} : t_eq s (t_term S s called d at_ l p u) (t_term S' s called d at_ l p u) := by
  unfold t_term
  exact t_eq_fu (t_eq_fu (t_eq_rows (E_new h)))
theorem E_caution {V : Nat → v_D} {S S' : w_S} {r : Nat → Int} {d : Nat} {at_ : Int} (h : E_S S S') (hz : R_z S) : E_O (X_caution V S r d at_) (X_caution V S' r d at_) := by
  unfold X_caution
  exact E_if (by rw [h.1 5 (by omega)]) (E_mk h) (fun c => E_mk (E_addT h hz (by omega) (by show S.1 5 < 40; omega) (E_term h)))
theorem E_option {V : Nat → v_D} {S S' : w_S} {r : Nat → Int} {d : Nat} {at_ : Int} (h : E_S S S') (hz : R_z S) (hg : w_rg S) (h1 : 0 ≤ r 1 ∧ r 1 < S.1 0) : E_O (X_option V S r d at_) (X_option V S' r d at_) := by
  unfold X_option
  exact E_if Iff.rfl (E_mk h) (fun _ => E_if (by rw [E_oab h hg (by omega)]) (E_mk h) (fun _ => E_if (E_bar h) (E_mk h) (fun _ => E_if (by rw [h.1 6 (by omega)]) (E_mk h) (fun c => E_mk (E_addT h hz (by omega) (by show S.1 6 < 30; omega) (E_term h))))))
theorem E_lease {V : Nat → v_D} {S S' : w_S} {r : Nat → Int} {d : Nat} {at_ : Int} (h : E_S S S') (hz : R_z S) (hg : w_rg S) (h1 : 0 ≤ r 1 ∧ r 1 < S.1 0) (h2 : 0 ≤ r 2 ∧ r 2 < S.1 1) : E_O (X_lease V S r d at_) (X_lease V S' r d at_) := by
  have hw := (hg.2 1 (r 2).toNat (by omega) (by omega) (by show (((r 2).toNat : Nat) : Int) < S.1 1; omega)).1.1
  unfold X_lease
  refine E_if Iff.rfl (E_mk h) (fun _ => E_if (by rw [E_oab h hg (by omega), E_abl h (by omega) hw]) (E_mk h) (fun _ => E_if (E_bar h) (E_mk h) (fun _ => E_if (E_leased h) (E_mk h) (fun _ => E_if (by rw [h.1 4 (by omega)]) (E_mk h) (fun c => E_mk (E_addT h hz (by omega) (by show S.1 4 < 40; omega) ?_))))))
  have e := E_term h (s := 4) (called := (V d).2.1 0) (d := d) (at_ := at_) (l := r 1) (p := r 2) (u := (V d).1 8)
  exact t_eq_put e
theorem E_serve {V : Nat → v_D} {S S' : w_S} {r x y : Nat → Int} {d : Nat} {at_ : Int} (h : E_S S S') (hz : R_z S) (hg : w_rg S) (h2 : 0 ≤ r 2 ∧ r 2 < S.1 0) : E_O (X_serve V S r x y d at_) (X_serve V S' r x y d at_) := by
  unfold X_serve
  rw [← E_lot h (i := (r 2).toNat) (by omega)]
  exact E_if Iff.rfl (E_mk h) (fun _ => E_if (by rw [E_oab h hg (by omega)]) (E_mk h) (fun _ => E_if (E_bar h) (E_mk h) (fun _ => E_if Iff.rfl (E_mk h) (fun _ => E_if (by rw [h.1 3 (by omega)]) (E_mk h) (fun c => E_mk (E_addT h hz (by omega) (by show S.1 3 < 40; omega) (t_eq_fu (t_eq_rows (E_new h)))))))))
