/-! THE MODEL: the ACTS that it reads: a sale -/
theorem co_shr {B M M1 M2 : e_M} {T : q_Tk} {E : Nat → Int} {n x : Nat} {j a b : Int} {s : q_S} (h : n_co B M T E n x j s) (ha : a ≠ 0) (e1 : M1 = e_up M 4468 x a) (e2 : M2 = e_up M1 4469 x b) : n_co B M2 T E n x j (q_D (qd_set 12 b) (q_D (qd_set 11 a) s)) ∧ n_pz M M2 := by
  obtain ⟨p1, p2, p3⟩ := h.2.2.1
  have o : ∀ c, c ≠ 4468 → c ≠ 4469 → M2 c = M c := fun c c1 c2 => by rw [e2, e_up_row c2, e1, e_up_row c1]
  have k8 : M2 4468 x = a := by rw [e2, e_up_row (by omega), e1, e_up_eq]
  have k9 : M2 4469 x = b := by rw [e2, e_up_eq]
  have f : ∀ (D : v_D) (k : Nat), k ≠ 11 → k ≠ 12 → (qd_set 12 b (qd_set 11 a D)).1 k = D.1 k := fun D k k1 k2 => by
    show s_fu (s_fu D.1 11 a) 12 b k = _
    rw [s_fu_ne k2, s_fu_ne k1]
  have f11 : ∀ D : v_D, (qd_set 12 b (qd_set 11 a D)).1 11 = a := fun D => by
    show s_fu (s_fu D.1 11 a) 12 b 11 = _
    rw [s_fu_ne (by omega), s_fu_eq]
  have f12 : ∀ D : v_D, (qd_set 12 b (qd_set 11 a D)).1 12 = b := fun D => by
    show s_fu (s_fu D.1 11 a) 12 b 12 = _
    rw [s_fu_eq]
  have key : n_co B M2 T E n x j (q_D (fun D => qd_set 12 b (qd_set 11 a D)) s) := by
    refine n_co_up h (fun c hc => o c (by omega) (by omega)) (fun g => ?_) ?_ ?_
    · rw [e2, e1]
      exact n_fx_1 (n_fx_1 g (by omega) (by omega)) (by omega) (by omega)
    · unfold P_a
      rw [f _ 3 (by omega) (by omega), f _ 4 (by omega) (by omega), f _ 7 (by omega) (by omega), f _ 9 (by omega) (by omega), f _ 8 (by omega) (by omega), f _ 10 (by omega) (by omega), f11, f12, k8, k9, o 4461 (by omega) (by omega), o 4462 (by omega) (by omega), o 4463 (by omega) (by omega), o 4464 (by omega) (by omega), o 4465 (by omega) (by omega), o 4466 (by omega) (by omega), o 4467 (by omega) (by omega)]
      exact ⟨p1, p2, fun z => absurd z ha, fun _ => ⟨rfl, rfl⟩⟩
    · show (qd_set 12 b (qd_set 11 a s.2.2.2)).1 7 = j
      rw [f _ 7 (by omega) (by omega)]
      exact h.2.2.2.1
  exact ⟨key, fun c c1 c2 => o c (by omega) (by omega)⟩
theorem fa_205 {B M : e_M} {T : q_Tk} {E : Nat → Int} {n x : Nat} {s : q_S} {Q : Int → e_M → Prop} (hn : n_hn B T E n) (h : n_rd B M T E n x 0 0 s) (q0 : ∀ M', n_dd B M' x (q_amt T n (q_exp T n 229 (q_parts T n (q_exp T n 225 (q_sold T n (q_named T n 1 (q_exp T n 228 (q_named T n 0 s)))))))) → Q 0 M') (q1 : ∀ M' j p, n_rd B M' T E n x j p (q_amt T n (q_exp T n 229 (q_parts T n (q_exp T n 225 (q_sold T n (q_named T n 1 (q_exp T n 228 (q_named T n 0 s)))))))) → Q 1 M') : WX12_first 11 M Q := by
  unfold WX12_first VX12_first
  have ltail : ∀ y, q_le y (q_amt T n (q_exp T n 229 (q_parts T n (q_exp T n 225 y)))) := fun y => q_le_s q_amt_dd (q_le_s q_exp_dd (q_le_s q_parts_dd (q_le_s q_exp_dd q_le_r)))
  refine nd_name 0 hn h (by omega) (q_le_t (q_le_s q_sold_dd (q_le_s q_named_dd (q_le_s q_exp_dd q_le_r))) (ltail _)) (fun N d => nc0 (q0 N d)) (fun M1 h1 => nc1 ?_)
  simp only [Int.reduceEq, false_implies, not_false_eq_true, forall_const, true_and, not_true_eq_false, and_true]
  refine nd_must 228 hn h1 (by omega) rfl (q_le_t (q_le_s q_sold_dd (q_le_s q_named_dd q_le_r)) (ltail _)) (fun N d => nb0 (q0 N d)) (fun M2 h2 => nb1 ?_)
  refine nd_name 1 hn h2 (by omega) (q_le_t (q_le_s q_sold_dd q_le_r) (ltail _)) (fun N d => nc0 (q0 N d)) (fun M3 h3 => nc1 ?_)
  generalize q_named T n 1 (q_exp T n 228 (q_named T n 0 s)) = y at *
  have tk : q_tk T y = (T y.1).1 := q_tk0 h3.1.1.1
  have kd := (n_kd h3.1.1.2.1.2.2.2).2.2.1
  have k289 : ∀ M', n_rd B M' T E n x (0 + 1 + 1) 0 (q_sold T n y) → WX12_first_289 Q M' := by
    intro M4 h4
    unfold WX12_first_289 VX12_first_289
    refine nd_must 225 hn h4 (by omega) rfl (q_le_s q_amt_dd (q_le_s q_exp_dd (q_le_s q_parts_dd q_le_r))) (fun N d => nb0 (q0 N d)) (fun M5 h5 => nb1 ?_)
    refine nd_parts hn h5 (by omega) (q_le_s q_amt_dd (q_le_s q_exp_dd q_le_r)) (fun N d => nb0 (q0 N d)) (fun M6 i i1 i2 h6 => nb1 ?_)
    refine nd_must 229 hn h6 (by omega) rfl (q_le_s q_amt_dd q_le_r) (fun N d => nb0 (q0 N d)) (fun M7 h7 => nb1 ?_)
    exact nd_amt hn h7 q_le_r (fun N d => nb0 (q0 N d)) (fun M8 h8 => nb1 (q1 _ _ _ h8))
  refine ⟨fun ne => k289 M3 ?_, fun e => ?_⟩
  · have ex : q_sold T n y = y := by
      unfold q_sold
      rw [if_neg (fun z => ne (kd.mpr (tk.symm.trans z)))]
    rw [ex]; exact h3
  · have e3 := kd.mp e
    have ex : q_sold T n y = q_D (qd_set 12 (q_sv T n y).2) (q_D (qd_set 11 (q_sv T n y).1) (q_share T n y)) := by
      unfold q_sold
      rw [if_pos (tk.trans e3)]
    have ls : q_le (q_share T n y) (q_sold T n y) := by rw [ex]; exact q_le_s q_dd_D (q_le_s q_dd_D q_le_r)
    refine co_share hn h3.1 (q_le_t ls (ltail _)) (fun N d => nc0 (q0 N d)) (fun M4 h4 z4 e36 e37 => nc1 ?_)
    have lv := q_share_in h4.1.1
    have g1 := s_gcd_pos (a := q_val T y) (b := q_val T (q_s2 T n y))
    have dr := s_div_rng lv.1.1 lv.1.2 g1 (s_gcd_le lv.1.1)
    have a1 : (q_sv T n y).1 ≠ 0 := by
      show q_val T y / s_gcd (q_val T y) (q_val T (q_s2 T n y)) ≠ 0
      have := dr.2.1
      omega
    have x35 := h4.2.1
    rw [x35.1, e36]
    refine ⟨by omega, fun M5 e5 => ?_⟩
    rw [show ((x : Nat) : Int).toNat = x by omega] at e5
    have e56 : M5 4456 = M4 4456 := by rw [e5, e_up_row (by omega)]
    rw [e56, x35.1, e37]
    refine ⟨by omega, fun M6 e6 => k289 M6 ?_⟩
    rw [show ((x : Nat) : Int).toNat = x by omega] at e6
    obtain ⟨c6, z6⟩ := co_shr h4 a1 e5 e6
    rw [ex]
    refine n_rd_st h3 c6 (n_pz_t z4 z6) ?_ (Or.inl (by omega))
    have sm : q_sm2 y (q_share T n y) := q_sm_D q_sm_share
    have f2 : ∀ k, k ≠ 11 → k ≠ 12 → (q_D (qd_set 12 (q_sv T n y).2) (q_D (qd_set 11 (q_sv T n y).1) (q_share T n y))).2.2.2.1 k = (q_share T n y).2.2.2.1 k := fun k k1 k2 => by
      show s_fu (s_fu (q_share T n y).2.2.2.1 11 (q_sv T n y).1) 12 (q_sv T n y).2 k = _
      rw [s_fu_ne k2, s_fu_ne k1]
    exact ⟨(f2 15 (by omega) (by omega)).trans sm.1, sm.2.1, (f2 18 (by omega) (by omega)).trans sm.2.2.1, sm.2.2.2⟩
