/-! what NAMES stand for is settled; an ACT looks at nothing else of r -/
theorem n_uniq {S : w_S} {nm wt : Nat → Int} {told : Int} {R R' : Nat → Nat × Nat} (u : w_un S) (a : n_ok S nm wt told R) (b : n_ok S nm wt told R') {k : Nat} (hk : (k : Int) < told) (h10 : wt k ≠ 10) : R k = R' k := by
  have h1 := a k hk
  have h2 := b k hk
  unfold n_at at h1 h2
  rw [if_neg h10] at h1 h2
  obtain ⟨x1, x2⟩ := u _ _ _ _ h1.1.1 h2.1.1 h1.1.2 h2.1.2 (h1.2.1.trans h2.2.1.symm)
  exact Prod.ext x1 x2
theorem s_ar_c {f g : Nat → Int} {n : Int} (h : ∀ k : Nat, (k : Int) < n → f k = g k) : s_ar f n = s_ar g n := by
  unfold s_ar
  refine List.map_congr_left (fun k hk => h k ?_)
  rw [List.mem_range] at hk
  omega
theorem a_mixed_c {r r' : Nat → Int} {f : Nat} {told p : Int} (h : ∀ k : Nat, f ≤ k → (k : Int) < told → r k = r' k) : a_mixed r f told p ↔ a_mixed r' f told p := by
  have one : ∀ {r r' : Nat → Int}, (∀ k : Nat, f ≤ k → (k : Int) < told → r k = r' k) → a_mixed r f told p → a_mixed r' f told p := fun {r r'} h ⟨i, i1, i2, i3⟩ => by
    refine ⟨i, i1, i2, i3.elim (fun e => Or.inl (by rw [← h i (by omega) i2]; exact e)) (fun ⟨j, j1, j2, j3⟩ => Or.inr ⟨j, j1, j2, ?_⟩)⟩
    rw [← h i (by omega) i2, ← h j (by omega) (by omega)]
    exact j3
  exact ⟨one h, one (fun k k1 k2 => (h k k1 k2).symm)⟩
theorem X_charge_c {V : Nat → v_D} {S : w_S} {r r' : Nat → Int} {d : Nat} {at_ : Int} (h7 : 3 ≤ (V d).1 7) (h : ∀ k : Nat, 1 ≤ k → (k : Int) < (V d).1 7 → r k = r' k) : X_charge V S r d at_ = X_charge V S r' d at_ := by
  have d1 : ∀ {r r' : Nat → Int}, (∀ k : Nat, 1 ≤ k → (k : Int) < (V d).1 7 → r k = r' k) → c_dup r ((V d).1 7 - 1) → c_dup r' ((V d).1 7 - 1) := fun {r r'} h ⟨i, j, i1, i2, i3, i4⟩ => ⟨i, j, i1, i2, i3, by rw [← h i (by omega) (by omega), ← h j (by omega) (by omega)]; exact i4⟩
  have d2 : ∀ {r r' : Nat → Int}, (∀ k : Nat, 1 ≤ k → (k : Int) < (V d).1 7 → r k = r' k) → c_abl S r ((V d).1 7 - 1) → c_abl S r' ((V d).1 7 - 1) := fun {r r'} h c i i1 i2 => by rw [← h i i1 (by omega)]; exact c i i1 i2
  have d3 : ∀ {r r' : Nat → Int}, (∀ k : Nat, 1 ≤ k → (k : Int) < (V d).1 7 → r k = r' k) → c_bar S r ((V d).1 7 - 1) → c_bar S r' ((V d).1 7 - 1) := fun {r r'} h ⟨i, i1, i2, i3⟩ => ⟨i, i1, i2, by rw [← h i i1 (by omega)]; exact i3⟩
  have d4 : ∀ {r r' : Nat → Int}, (∀ k : Nat, 1 ≤ k → (k : Int) < (V d).1 7 → r k = r' k) → c_ful S r ((V d).1 7 - 1) → c_ful S r' ((V d).1 7 - 1) := fun {r r'} h c => c.elim Or.inl (fun ⟨i, i1, i2, i3⟩ => Or.inr ⟨i, i1, i2, by rw [← h i i1 (by omega)]; exact i3⟩)
  have hs : ∀ k : Nat, 1 ≤ k → (k : Int) < (V d).1 7 → r' k = r k := fun k k1 k2 => (h k k1 k2).symm
  unfold X_charge
  rw [show c_dup r ((V d).1 7 - 1) = c_dup r' ((V d).1 7 - 1) from propext ⟨d1 h, d1 hs⟩, show c_abl S r ((V d).1 7 - 1) = c_abl S r' ((V d).1 7 - 1) from propext ⟨d2 h, d2 hs⟩, show c_bar S r ((V d).1 7 - 1) = c_bar S r' ((V d).1 7 - 1) from propext ⟨d3 h, d3 hs⟩, show c_ful S r ((V d).1 7 - 1) = c_ful S r' ((V d).1 7 - 1) from propext ⟨d4 h, d4 hs⟩, h ((V d).1 7 - 1).toNat (by omega) (by omega), show s_ar (fun k => r (k + 1)) ((V d).1 7 - 1 - 1) = s_ar (fun k => r' (k + 1)) ((V d).1 7 - 1 - 1) from s_ar_c (fun k hk => h (k + 1) (by omega) (by omega))]
theorem o_pts_c {r r' : Nat → Int} {t b : Int} : ∀ {ps : List (Int × Int)} {k : Nat} {o : s_Own}, (∀ i : Nat, k ≤ i → i < k + ps.length → r i = r' i) → o_pts r t b k ps o = o_pts r' t b k ps o
  | [], _, _, _ => rfl
  | p :: ps, k, o, h => by
    show o_pts r t b (k + 1) ps _ = o_pts r' t b (k + 1) ps _
    rw [h k (by omega) (by rw [List.length_cons]; omega)]
    exact o_pts_c (fun i i1 i2 => h i (by omega) (by rw [List.length_cons]; omega))
theorem X_sell_c {V : Nat → v_D} {S : w_S} {r r' : Nat → Int} {d : Nat} {at_ : Int} (h7 : (V d).1 7 = (V d).1 15 + 2) (hp : (((V d).2.2.2.1).length : Int) = (V d).1 15) (h : ∀ k : Nat, (k : Int) < (V d).1 7 → r k = r' k) : X_sell V S r d at_ = X_sell V S r' d at_ := by
  have h0 := h 0 (by omega)
  have h1 := h 1 (by omega)
  have m := a_mixed_c (r := r) (r' := r') (f := 2) (told := (V d).1 7) (p := r' 1) (fun k _ k2 => h k k2)
  have eq : y_q S r = y_q S r' := by unfold y_q; rw [h0, h1]
  have eT : ∀ s, y_T S r s = y_T S r' s := fun s => by unfold y_T; rw [eq]
  have eB : ∀ s u, y_B S r s u = y_B S r' s u := fun s u => by unfold y_B; rw [eq]
  have ef : y_fin S r (V d).2.2.2.1 ((V d).1 11) ((V d).1 12) = y_fin S r' (V d).2.2.2.1 ((V d).1 11) ((V d).1 12) := by
    unfold y_fin
    rw [eT, eB, h0, h1]
    exact o_pts_c (fun i i1 i2 => h i (by omega))
  have eo : y_ok S r (V d).2.2.2.1 ((V d).1 7) ((V d).1 11) ((V d).1 12) = y_ok S r' (V d).2.2.2.1 ((V d).1 7) ((V d).1 11) ((V d).1 12) := by
    unfold y_ok
    rw [eT, eB, eq, h1, show a_mixed r 2 ((V d).1 7) (r' 1) = a_mixed r' 2 ((V d).1 7) (r' 1) from propext m]
  have ec : y_can S r = y_can S r' := by unfold y_can; rw [h0, h1]
  have ew : ∀ T B, w_sale S ((V d).2.1 0) d at_ r ((V d).1 15) T B = w_sale S ((V d).2.1 0) d at_ r' ((V d).1 15) T B := fun T B => by
    unfold w_sale
    rw [h0, h1, s_ar_c (f := fun i => r (i + 2)) (g := fun i => r' (i + 2)) (fun k hk => h (k + 2) (by omega))]
  unfold X_sell
  rw [ec, eo, ef, eT, eB, ew, h0, h1]
