/-! THE MODEL: the ACTS that it reads: a death, a CHARGE -/
theorem fa_203 {B M : e_M} {T : q_Tk} {E : Nat → Int} {n x : Nat} {s : q_S} {Q : Int → e_M → Prop} (hn : n_hn B T E n) (h : n_rd B M T E n x 0 0 s) (q0 : ∀ M', n_dd B M' x (q_heir T n (q_named T n 11 s)) → Q 0 M') (q1 : ∀ M' j p, n_rd B M' T E n x j p (q_heir T n (q_named T n 11 s)) → Q 1 M') : WX12_first 9 M Q := by
  unfold WX12_first VX12_first
  refine nd_name 11 hn h (by omega) (q_le_s q_heir_dd q_le_r) (fun N d => nc0 (q0 N d)) (fun M1 h1 => nc1 ?_)
  simp only [Int.reduceEq, false_implies, not_false_eq_true, forall_const, true_and, not_true_eq_false, and_true]
  have tk : q_tk T (q_named T n 11 s) = (T (q_named T n 11 s).1).1 := q_tk0 h1.1.1.1
  refine n_isWord h1.1.1.2.1.2.2.2 (k := 225) (by omega) rfl (fun e => nb1 ?_) (fun e => nb0 ?_)
  · have ex : q_heir T n (q_named T n 11 s) = q_parts T n (q_exp T n 225 (q_named T n 11 s)) := by
      unfold q_heir q_exp
      rw [if_pos (tk.trans e), if_pos (tk.trans e)]
    rw [ex] at q0 q1
    refine nd_must 225 hn h1 (by omega) rfl (q_le_s q_parts_dd q_le_r) (fun N d => nb0 (q0 N d)) (fun M2 h2 => nb1 ?_)
    refine nd_parts hn h2 (by omega) q_le_r (fun N d => nb0 (q0 N d)) (fun M3 i i1 i2 h3 => nb1 ?_)
    unfold WX12_first_219 VX12_first_219
    exact q1 _ _ _ h3
  · have ex : q_heir T n (q_named T n 11 s) = q_named T n 11 s := by
      unfold q_heir
      rw [if_neg (fun z => e (tk.symm.trans z))]
    rw [ex] at q1
    unfold WX12_first_219 VX12_first_219
    exact q1 _ _ _ h1
theorem fa_209 {B M : e_M} {T : q_Tk} {E : Nat → Int} {n x : Nat} {s : q_S} {Q : Int → e_M → Prop} (hn : n_hn B T E n) (h : n_rd B M T E n x 0 0 s) (q0 : ∀ M', n_dd B M' x (q_amt T n (q_exp T n 229 (q_named T n 1 (q_exp T n 225 (q_ls T n 7 (q_exp T n 224 (q_named T n 10 s))))))) → Q 0 M') (q1 : ∀ M' j p, n_rd B M' T E n x j p (q_amt T n (q_exp T n 229 (q_named T n 1 (q_exp T n 225 (q_ls T n 7 (q_exp T n 224 (q_named T n 10 s))))))) → Q 1 M') : WX12_first 18 M Q := by
  unfold WX12_first VX12_first
  refine nd_name 10 hn h (by omega) (q_le_s q_amt_dd (q_le_s q_exp_dd (q_le_s q_named_dd (q_le_s q_exp_dd (q_le_s q_ls_dd (q_le_s q_exp_dd q_le_r)))))) (fun N d => nc0 (q0 N d)) (fun M1 h1 => nc1 ?_)
  simp only [Int.reduceEq, false_implies, not_false_eq_true, forall_const, true_and, not_true_eq_false, and_true]
  refine nd_must 224 hn h1 (by omega) rfl (q_le_s q_amt_dd (q_le_s q_exp_dd (q_le_s q_named_dd (q_le_s q_exp_dd (q_le_s q_ls_dd q_le_r))))) (fun N d => nb0 (q0 N d)) (fun M2 h2 => nb1 ?_)
  refine nd_names hn h2 (by omega) (q_le_s q_amt_dd (q_le_s q_exp_dd (q_le_s q_named_dd (q_le_s q_exp_dd q_le_r)))) (fun N d => nb0 (q0 N d)) (fun M3 j3 a3 b3 h3 => nb1 ?_)
  refine nd_must 225 hn h3 (by omega) rfl (q_le_s q_amt_dd (q_le_s q_exp_dd (q_le_s q_named_dd q_le_r))) (fun N d => nb0 (q0 N d)) (fun M4 h4 => nb1 ?_)
  refine nd_name 1 hn h4 (by omega) (q_le_s q_amt_dd (q_le_s q_exp_dd q_le_r)) (fun N d => nb0 (q0 N d)) (fun M5 h5 => nb1 ?_)
  refine nd_must 229 hn h5 (by omega) rfl (q_le_s q_amt_dd q_le_r) (fun N d => nb0 (q0 N d)) (fun M6 h6 => nb1 ?_)
  exact nd_amt hn h6 q_le_r (fun N d => nb0 (q0 N d)) (fun M7 h7 => nb1 (q1 _ _ _ h7))
