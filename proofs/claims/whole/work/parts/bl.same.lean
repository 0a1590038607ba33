/-! ACTS over two Worlds with the same in them: the auction whole -/
theorem E_auction {V : Nat → v_D} {S S' : w_S} {r : Nat → Int} {d : Nat} (h : E_S S S') (hz : R_z S) (hg : w_rg S) (h0 : 0 ≤ r 0 ∧ r 0 < S.1 0) (h1 : 0 ≤ r 1 ∧ r 1 < S.1 2) (h2 : 0 ≤ r 2 ∧ r 2 < S.1 1) : E_O (X_auction V S r d) (X_auction V S' r d) := by
  have hi : ((r 0).toNat : Int) < S.1 0 := by omega
  have hc : ((r 1).toNat : Int) < S.1 2 := by omega
  have hp : ((r 2).toNat : Int) < S.1 1 := by omega
  have ec := E_th h (s := 2) (by omega) hc
  unfold X_auction
  rw [← E_lot h hi, ← E_abl h hp (hg.2 1 (r 2).toNat (by omega) (by omega) hp).1.1, ← t_eq_s ec (k := 5) (by omega), ← t_eq_s ec (k := 1) (by omega)]
  refine E_if Iff.rfl (E_mk h) (fun _ => E_if Iff.rfl (E_mk h) (fun _ => E_if (E_bar h) (E_mk h) (fun _ => E_if Iff.rfl (E_mk h) (fun _ => E_mk ?_))))
  generalize (r_find (w_l S (r 0).toNat).2.2.1 (r 1)).toNat = f
  generalize (w_t S 2 (r 1).toNat).1 1 = made
  unfold w_auction
  rw [← h.2.2.2]
  have e1 : E_S (w_ows S (r 0).toNat [(r 2, 1, 1)]) (w_ows S' (r 0).toNat [(r 2, 1, 1)]) := E_ows h hi
  have e2 := E_lpt (k := 2) (v := (V d).1 9) e1 (l := (r 0).toNat) hi
  have ec2 : (w_l (w_lpt (w_ows S (r 0).toNat [(r 2, 1, 1)]) (r 0).toNat 2 ((V d).1 9)) (r 0).toNat).2.2.1 = (w_l S (r 0).toNat).2.2.1 := by
    unfold w_lpt w_ows w_setL w_l
    simp only [s_fu_eq]
  have e3 := E_auc (l := (r 0).toNat) (f := f) 8 (left := (V d).1 9) e2 (fun s hs => hz s hs) hi (fun c hcc => by rw [ec2] at hcc; exact (hg.1 (r 0).toNat hi).2.1 c hcc) (fun c hcc x hx => by
    have z : 0 ≤ x ∧ x < S.1 0 := (hg.2 2 c (by omega) (by omega) hcc).2.1 x hx
    show (x.toNat : Int) < S.1 0
    omega)
  refine E_map e3 (fun s hs => ?_) (fun s t t' _ ht => t_eq_clr ht)
  rw [(w_auc_s1 8 (w_lpt (w_ows S (r 0).toNat [(r 2, 1, 1)]) (r 0).toNat 2 ((V d).1 9)) (w_lpt (w_ows S (r 0).toNat [(r 2, 1, 1)]) (r 0).toNat 2 ((V d).1 9)) ((V d).1 9) (fun _ => rfl)).2.1]
  exact hz s hs
