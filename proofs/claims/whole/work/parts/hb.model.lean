/-! THE MODEL: the ACTS that it reads: the simple ones -/
theorem fa_200 {B M : e_M} {T : q_Tk} {E : Nat → Int} {n x : Nat} {s : q_S} {Q : Int → e_M → Prop} (hn : n_hn B T E n) (h : n_rd B M T E n x 0 0 s) (q0 : ∀ M', n_dd B M' x (q_day T n 8 (q_exp T n 226 (q_named T n 10 (s)))) → Q 0 M') (q1 : ∀ M' j p, n_rd B M' T E n x j p (q_day T n 8 (q_exp T n 226 (q_named T n 10 (s)))) → Q 1 M') : WX12_first 4 M Q := by
  unfold WX12_first VX12_first
  refine nd_name 10 hn h (by omega) (q_le_s q_day_dd (q_le_s q_exp_dd q_le_r)) (fun N d => nc0 (q0 N d)) (fun M1 h1 => nc1 ?_)
  simp only [Int.reduceEq, false_implies, not_false_eq_true, forall_const, true_and, not_true_eq_false, and_true]
  refine nd_must 226 hn h1 (by omega) rfl (q_le_s q_day_dd q_le_r) (fun N d => nb0 (q0 N d)) (fun M2 h2 => nb1 ?_)
  exact nd_date hn h2 (q_le_r) (fun N d => nb0 (q0 N d)) (fun M3 h3 => nb1 (q1 _ _ _ h3))
theorem fa_201 {B M : e_M} {T : q_Tk} {E : Nat → Int} {n x : Nat} {s : q_S} {Q : Int → e_M → Prop} (hn : n_hn B T E n) (h : n_rd B M T E n x 0 0 s) (q0 : ∀ M', n_dd B M' x (q_named T n 11 (q_exp T n 227 (q_named T n 10 (s)))) → Q 0 M') (q1 : ∀ M' j p, n_rd B M' T E n x j p (q_named T n 11 (q_exp T n 227 (q_named T n 10 (s)))) → Q 1 M') : WX12_first 6 M Q := by
  unfold WX12_first VX12_first
  refine nd_name 10 hn h (by omega) (q_le_s q_named_dd (q_le_s q_exp_dd q_le_r)) (fun N d => nc0 (q0 N d)) (fun M1 h1 => nc1 ?_)
  simp only [Int.reduceEq, false_implies, not_false_eq_true, forall_const, true_and, not_true_eq_false, and_true]
  refine nd_must 227 hn h1 (by omega) rfl (q_le_s q_named_dd q_le_r) (fun N d => nb0 (q0 N d)) (fun M2 h2 => nb1 ?_)
  exact nd_name 11 hn h2 (by omega) (q_le_r) (fun N d => nb0 (q0 N d)) (fun M3 h3 => nb1 (q1 _ _ _ h3))
theorem fa_202 {B M : e_M} {T : q_Tk} {E : Nat → Int} {n x : Nat} {s : q_S} {Q : Int → e_M → Prop} (hn : n_hn B T E n) (h : n_rd B M T E n x 0 0 s) (q0 : ∀ M', n_dd B M' x (q_named T n 11 (q_exp T n 227 (q_named T n 11 (s)))) → Q 0 M') (q1 : ∀ M' j p, n_rd B M' T E n x j p (q_named T n 11 (q_exp T n 227 (q_named T n 11 (s)))) → Q 1 M') : WX12_first 8 M Q := by
  unfold WX12_first VX12_first
  refine nd_name 11 hn h (by omega) (q_le_s q_named_dd (q_le_s q_exp_dd q_le_r)) (fun N d => nc0 (q0 N d)) (fun M1 h1 => nc1 ?_)
  simp only [Int.reduceEq, false_implies, not_false_eq_true, forall_const, true_and, not_true_eq_false, and_true]
  refine nd_must 227 hn h1 (by omega) rfl (q_le_s q_named_dd q_le_r) (fun N d => nb0 (q0 N d)) (fun M2 h2 => nb1 ?_)
  exact nd_name 11 hn h2 (by omega) (q_le_r) (fun N d => nb0 (q0 N d)) (fun M3 h3 => nb1 (q1 _ _ _ h3))
theorem fa_204 {B M : e_M} {T : q_Tk} {E : Nat → Int} {n x : Nat} {s : q_S} {Q : Int → e_M → Prop} (hn : n_hn B T E n) (h : n_rd B M T E n x 0 0 s) (q0 : ∀ M', n_dd B M' x (q_named T n 12 (s)) → Q 0 M') (q1 : ∀ M' j p, n_rd B M' T E n x j p (q_named T n 12 (s)) → Q 1 M') : WX12_first 10 M Q := by
  unfold WX12_first VX12_first
  refine nd_name 12 hn h (by omega) (q_le_r) (fun N d => nc0 (q0 N d)) (fun M1 h1 => nc1 ?_)
  simp only [Int.reduceEq, false_implies, not_false_eq_true, forall_const, true_and, not_true_eq_false, and_true]
  exact q1 _ _ _ h1
theorem fa_207 {B M : e_M} {T : q_Tk} {E : Nat → Int} {n x : Nat} {s : q_S} {Q : Int → e_M → Prop} (hn : n_hn B T E n) (h : n_rd B M T E n x 0 0 s) (q0 : ∀ M', n_dd B M' x (q_named T n 10 (q_exp T n 230 (q_named T n 0 (q_exp T n 44 (q_named T n 0 (s)))))) → Q 0 M') (q1 : ∀ M' j p, n_rd B M' T E n x j p (q_named T n 10 (q_exp T n 230 (q_named T n 0 (q_exp T n 44 (q_named T n 0 (s)))))) → Q 1 M') : WX12_first 16 M Q := by
  unfold WX12_first VX12_first
  refine nd_name 0 hn h (by omega) (q_le_s q_named_dd (q_le_s q_exp_dd (q_le_s q_named_dd (q_le_s q_exp_dd q_le_r)))) (fun N d => nc0 (q0 N d)) (fun M1 h1 => nc1 ?_)
  simp only [Int.reduceEq, false_implies, not_false_eq_true, forall_const, true_and, not_true_eq_false, and_true]
  refine nd_sign 44 hn h1 (by unfold q_sg; omega) rfl (q_le_s q_named_dd (q_le_s q_exp_dd (q_le_s q_named_dd q_le_r))) (fun N d => nb0 (q0 N d)) (fun M2 h2 => nb1 ?_)
  refine nd_name 0 hn h2 (by omega) (q_le_s q_named_dd (q_le_s q_exp_dd q_le_r)) (fun N d => nb0 (q0 N d)) (fun M3 h3 => nb1 ?_)
  refine nd_must 230 hn h3 (by omega) rfl (q_le_s q_named_dd q_le_r) (fun N d => nb0 (q0 N d)) (fun M4 h4 => nb1 ?_)
  exact nd_name 10 hn h4 (by omega) (q_le_r) (fun N d => nb0 (q0 N d)) (fun M5 h5 => nb1 (q1 _ _ _ h5))
theorem fa_210 {B M : e_M} {T : q_Tk} {E : Nat → Int} {n x : Nat} {s : q_S} {Q : Int → e_M → Prop} (hn : n_hn B T E n) (h : n_rd B M T E n x 0 0 s) (q0 : ∀ M', n_dd B M' x (q_amt T n (q_exp T n 229 (q_named T n 2 (s)))) → Q 0 M') (q1 : ∀ M' j p, n_rd B M' T E n x j p (q_amt T n (q_exp T n 229 (q_named T n 2 (s)))) → Q 1 M') : WX12_first 19 M Q := by
  unfold WX12_first VX12_first
  refine nd_name 2 hn h (by omega) (q_le_s q_amt_dd (q_le_s q_exp_dd q_le_r)) (fun N d => nc0 (q0 N d)) (fun M1 h1 => nc1 ?_)
  simp only [Int.reduceEq, false_implies, not_false_eq_true, forall_const, true_and, not_true_eq_false, and_true]
  refine nd_must 229 hn h1 (by omega) rfl (q_le_s q_amt_dd q_le_r) (fun N d => nb0 (q0 N d)) (fun M2 h2 => nb1 ?_)
  exact nd_amt hn h2 (q_le_r) (fun N d => nb0 (q0 N d)) (fun M3 h3 => nb1 (q1 _ _ _ h3))
theorem fa_211 {B M : e_M} {T : q_Tk} {E : Nat → Int} {n x : Nat} {s : q_S} {Q : Int → e_M → Prop} (hn : n_hn B T E n) (h : n_rd B M T E n x 0 0 s) (q0 : ∀ M', n_dd B M' x (q_named T n 1 (q_exp T n 225 (q_named T n 2 (s)))) → Q 0 M') (q1 : ∀ M' j p, n_rd B M' T E n x j p (q_named T n 1 (q_exp T n 225 (q_named T n 2 (s)))) → Q 1 M') : WX12_first 20 M Q := by
  unfold WX12_first VX12_first
  refine nd_name 2 hn h (by omega) (q_le_s q_named_dd (q_le_s q_exp_dd q_le_r)) (fun N d => nc0 (q0 N d)) (fun M1 h1 => nc1 ?_)
  simp only [Int.reduceEq, false_implies, not_false_eq_true, forall_const, true_and, not_true_eq_false, and_true]
  refine nd_must 225 hn h1 (by omega) rfl (q_le_s q_named_dd q_le_r) (fun N d => nb0 (q0 N d)) (fun M2 h2 => nb1 ?_)
  exact nd_name 1 hn h2 (by omega) (q_le_r) (fun N d => nb0 (q0 N d)) (fun M3 h3 => nb1 (q1 _ _ _ h3))
theorem fa_212 {B M : e_M} {T : q_Tk} {E : Nat → Int} {n x : Nat} {s : q_S} {Q : Int → e_M → Prop} (hn : n_hn B T E n) (h : n_rd B M T E n x 0 0 s) (q0 : ∀ M', n_dd B M' x (q_named T n 0 (q_exp T n 224 (q_named T n 2 (q_exp T n 231 (q_named T n 2 (s)))))) → Q 0 M') (q1 : ∀ M' j p, n_rd B M' T E n x j p (q_named T n 0 (q_exp T n 224 (q_named T n 2 (q_exp T n 231 (q_named T n 2 (s)))))) → Q 1 M') : WX12_first 21 M Q := by
  unfold WX12_first VX12_first
  refine nd_name 2 hn h (by omega) (q_le_s q_named_dd (q_le_s q_exp_dd (q_le_s q_named_dd (q_le_s q_exp_dd q_le_r)))) (fun N d => nc0 (q0 N d)) (fun M1 h1 => nc1 ?_)
  simp only [Int.reduceEq, false_implies, not_false_eq_true, forall_const, true_and, not_true_eq_false, and_true]
  refine nd_must 231 hn h1 (by omega) rfl (q_le_s q_named_dd (q_le_s q_exp_dd (q_le_s q_named_dd q_le_r))) (fun N d => nb0 (q0 N d)) (fun M2 h2 => nb1 ?_)
  refine nd_name 2 hn h2 (by omega) (q_le_s q_named_dd (q_le_s q_exp_dd q_le_r)) (fun N d => nb0 (q0 N d)) (fun M3 h3 => nb1 ?_)
  refine nd_must 224 hn h3 (by omega) rfl (q_le_s q_named_dd q_le_r) (fun N d => nb0 (q0 N d)) (fun M4 h4 => nb1 ?_)
  exact nd_name 0 hn h4 (by omega) (q_le_r) (fun N d => nb0 (q0 N d)) (fun M5 h5 => nb1 (q1 _ _ _ h5))
theorem fa_213 {B M : e_M} {T : q_Tk} {E : Nat → Int} {n x : Nat} {s : q_S} {Q : Int → e_M → Prop} (hn : n_hn B T E n) (h : n_rd B M T E n x 0 0 s) (q0 : ∀ M', n_dd B M' x (q_named T n 2 (q_exp T n 228 (q_named T n 0 (s)))) → Q 0 M') (q1 : ∀ M' j p, n_rd B M' T E n x j p (q_named T n 2 (q_exp T n 228 (q_named T n 0 (s)))) → Q 1 M') : WX12_first 23 M Q := by
  unfold WX12_first VX12_first
  refine nd_name 0 hn h (by omega) (q_le_s q_named_dd (q_le_s q_exp_dd q_le_r)) (fun N d => nc0 (q0 N d)) (fun M1 h1 => nc1 ?_)
  simp only [Int.reduceEq, false_implies, not_false_eq_true, forall_const, true_and, not_true_eq_false, and_true]
  refine nd_must 228 hn h1 (by omega) rfl (q_le_s q_named_dd q_le_r) (fun N d => nb0 (q0 N d)) (fun M2 h2 => nb1 ?_)
  exact nd_name 2 hn h2 (by omega) (q_le_r) (fun N d => nb0 (q0 N d)) (fun M3 h3 => nb1 (q1 _ _ _ h3))
theorem fa_214 {B M : e_M} {T : q_Tk} {E : Nat → Int} {n x : Nat} {s : q_S} {Q : Int → e_M → Prop} (hn : n_hn B T E n) (h : n_rd B M T E n x 0 0 s) (q0 : ∀ M', n_dd B M' x (q_amt T n (q_exp T n 229 (q_named T n 1 (q_exp T n 225 (q_named T n 2 (q_exp T n 227 (q_named T n 0 (s)))))))) → Q 0 M') (q1 : ∀ M' j p, n_rd B M' T E n x j p (q_amt T n (q_exp T n 229 (q_named T n 1 (q_exp T n 225 (q_named T n 2 (q_exp T n 227 (q_named T n 0 (s)))))))) → Q 1 M') : WX12_first 24 M Q := by
  unfold WX12_first VX12_first
  refine nd_name 0 hn h (by omega) (q_le_s q_amt_dd (q_le_s q_exp_dd (q_le_s q_named_dd (q_le_s q_exp_dd (q_le_s q_named_dd (q_le_s q_exp_dd q_le_r)))))) (fun N d => nc0 (q0 N d)) (fun M1 h1 => nc1 ?_)
  simp only [Int.reduceEq, false_implies, not_false_eq_true, forall_const, true_and, not_true_eq_false, and_true]
  refine nd_must 227 hn h1 (by omega) rfl (q_le_s q_amt_dd (q_le_s q_exp_dd (q_le_s q_named_dd (q_le_s q_exp_dd (q_le_s q_named_dd q_le_r))))) (fun N d => nb0 (q0 N d)) (fun M2 h2 => nb1 ?_)
  refine nd_name 2 hn h2 (by omega) (q_le_s q_amt_dd (q_le_s q_exp_dd (q_le_s q_named_dd (q_le_s q_exp_dd q_le_r)))) (fun N d => nb0 (q0 N d)) (fun M3 h3 => nb1 ?_)
  refine nd_must 225 hn h3 (by omega) rfl (q_le_s q_amt_dd (q_le_s q_exp_dd (q_le_s q_named_dd q_le_r))) (fun N d => nb0 (q0 N d)) (fun M4 h4 => nb1 ?_)
  refine nd_name 1 hn h4 (by omega) (q_le_s q_amt_dd (q_le_s q_exp_dd q_le_r)) (fun N d => nb0 (q0 N d)) (fun M5 h5 => nb1 ?_)
  refine nd_must 229 hn h5 (by omega) rfl (q_le_s q_amt_dd q_le_r) (fun N d => nb0 (q0 N d)) (fun M6 h6 => nb1 ?_)
  exact nd_amt hn h6 (q_le_r) (fun N d => nb0 (q0 N d)) (fun M7 h7 => nb1 (q1 _ _ _ h7))
theorem fa_216 {B M : e_M} {T : q_Tk} {E : Nat → Int} {n x : Nat} {s : q_S} {Q : Int → e_M → Prop} (hn : n_hn B T E n) (h : n_rd B M T E n x 0 0 s) (q0 : ∀ M', n_dd B M' x (q_named T n 3 (s)) → Q 0 M') (q1 : ∀ M' j p, n_rd B M' T E n x j p (q_named T n 3 (s)) → Q 1 M') : WX12_first 29 M Q := by
  unfold WX12_first VX12_first
  refine nd_name 3 hn h (by omega) (q_le_r) (fun N d => nc0 (q0 N d)) (fun M1 h1 => nc1 ?_)
  simp only [Int.reduceEq, false_implies, not_false_eq_true, forall_const, true_and, not_true_eq_false, and_true]
  exact q1 _ _ _ h1
theorem fa_217 {B M : e_M} {T : q_Tk} {E : Nat → Int} {n x : Nat} {s : q_S} {Q : Int → e_M → Prop} (hn : n_hn B T E n) (h : n_rd B M T E n x 0 0 s) (q0 : ∀ M', n_dd B M' x (q_amt T n (q_exp T n 229 (q_day T n 8 (q_exp T n 235 (q_named T n 1 (q_exp T n 225 (q_named T n 0 (q_exp T n 224 (q_named T n 10 (s)))))))))) → Q 0 M') (q1 : ∀ M' j p, n_rd B M' T E n x j p (q_amt T n (q_exp T n 229 (q_day T n 8 (q_exp T n 235 (q_named T n 1 (q_exp T n 225 (q_named T n 0 (q_exp T n 224 (q_named T n 10 (s)))))))))) → Q 1 M') : WX12_first 30 M Q := by
  unfold WX12_first VX12_first
  refine nd_name 10 hn h (by omega) (q_le_s q_amt_dd (q_le_s q_exp_dd (q_le_s q_day_dd (q_le_s q_exp_dd (q_le_s q_named_dd (q_le_s q_exp_dd (q_le_s q_named_dd (q_le_s q_exp_dd q_le_r)))))))) (fun N d => nc0 (q0 N d)) (fun M1 h1 => nc1 ?_)
  simp only [Int.reduceEq, false_implies, not_false_eq_true, forall_const, true_and, not_true_eq_false, and_true]
  refine nd_must 224 hn h1 (by omega) rfl (q_le_s q_amt_dd (q_le_s q_exp_dd (q_le_s q_day_dd (q_le_s q_exp_dd (q_le_s q_named_dd (q_le_s q_exp_dd (q_le_s q_named_dd q_le_r))))))) (fun N d => nb0 (q0 N d)) (fun M2 h2 => nb1 ?_)
  refine nd_name 0 hn h2 (by omega) (q_le_s q_amt_dd (q_le_s q_exp_dd (q_le_s q_day_dd (q_le_s q_exp_dd (q_le_s q_named_dd (q_le_s q_exp_dd q_le_r)))))) (fun N d => nb0 (q0 N d)) (fun M3 h3 => nb1 ?_)
  refine nd_must 225 hn h3 (by omega) rfl (q_le_s q_amt_dd (q_le_s q_exp_dd (q_le_s q_day_dd (q_le_s q_exp_dd (q_le_s q_named_dd q_le_r))))) (fun N d => nb0 (q0 N d)) (fun M4 h4 => nb1 ?_)
  refine nd_name 1 hn h4 (by omega) (q_le_s q_amt_dd (q_le_s q_exp_dd (q_le_s q_day_dd (q_le_s q_exp_dd q_le_r)))) (fun N d => nb0 (q0 N d)) (fun M5 h5 => nb1 ?_)
  refine nd_must 235 hn h5 (by omega) rfl (q_le_s q_amt_dd (q_le_s q_exp_dd (q_le_s q_day_dd q_le_r))) (fun N d => nb0 (q0 N d)) (fun M6 h6 => nb1 ?_)
  refine nd_date hn h6 (q_le_s q_amt_dd (q_le_s q_exp_dd q_le_r)) (fun N d => nb0 (q0 N d)) (fun M7 h7 => nb1 ?_)
  refine nd_must 229 hn h7 (by omega) rfl (q_le_s q_amt_dd q_le_r) (fun N d => nb0 (q0 N d)) (fun M8 h8 => nb1 ?_)
  exact nd_amt hn h8 (q_le_r) (fun N d => nb0 (q0 N d)) (fun M9 h9 => nb1 (q1 _ _ _ h9))
theorem fa_218 {B M : e_M} {T : q_Tk} {E : Nat → Int} {n x : Nat} {s : q_S} {Q : Int → e_M → Prop} (hn : n_hn B T E n) (h : n_rd B M T E n x 0 0 s) (q0 : ∀ M', n_dd B M' x (q_named T n 1 (q_exp T n 227 (q_named T n 0 (q_exp T n 224 (q_named T n 10 (s)))))) → Q 0 M') (q1 : ∀ M' j p, n_rd B M' T E n x j p (q_named T n 1 (q_exp T n 227 (q_named T n 0 (q_exp T n 224 (q_named T n 10 (s)))))) → Q 1 M') : WX12_first 32 M Q := by
  unfold WX12_first VX12_first
  refine nd_name 10 hn h (by omega) (q_le_s q_named_dd (q_le_s q_exp_dd (q_le_s q_named_dd (q_le_s q_exp_dd q_le_r)))) (fun N d => nc0 (q0 N d)) (fun M1 h1 => nc1 ?_)
  simp only [Int.reduceEq, false_implies, not_false_eq_true, forall_const, true_and, not_true_eq_false, and_true]
  refine nd_must 224 hn h1 (by omega) rfl (q_le_s q_named_dd (q_le_s q_exp_dd (q_le_s q_named_dd q_le_r))) (fun N d => nb0 (q0 N d)) (fun M2 h2 => nb1 ?_)
  refine nd_name 0 hn h2 (by omega) (q_le_s q_named_dd (q_le_s q_exp_dd q_le_r)) (fun N d => nb0 (q0 N d)) (fun M3 h3 => nb1 ?_)
  refine nd_must 227 hn h3 (by omega) rfl (q_le_s q_named_dd q_le_r) (fun N d => nb0 (q0 N d)) (fun M4 h4 => nb1 ?_)
  exact nd_name 1 hn h4 (by omega) (q_le_r) (fun N d => nb0 (q0 N d)) (fun M5 h5 => nb1 (q1 _ _ _ h5))
theorem fa_219 {B M : e_M} {T : q_Tk} {E : Nat → Int} {n x : Nat} {s : q_S} {Q : Int → e_M → Prop} (hn : n_hn B T E n) (h : n_rd B M T E n x 0 0 s) (q0 : ∀ M', n_dd B M' x (q_day T n 8 (q_exp T n 235 (q_named T n 1 (q_exp T n 225 (q_named T n 0 (q_exp T n 224 (q_named T n 10 (s)))))))) → Q 0 M') (q1 : ∀ M' j p, n_rd B M' T E n x j p (q_day T n 8 (q_exp T n 235 (q_named T n 1 (q_exp T n 225 (q_named T n 0 (q_exp T n 224 (q_named T n 10 (s)))))))) → Q 1 M') : WX12_first 33 M Q := by
  unfold WX12_first VX12_first
  refine nd_name 10 hn h (by omega) (q_le_s q_day_dd (q_le_s q_exp_dd (q_le_s q_named_dd (q_le_s q_exp_dd (q_le_s q_named_dd (q_le_s q_exp_dd q_le_r)))))) (fun N d => nc0 (q0 N d)) (fun M1 h1 => nc1 ?_)
  simp only [Int.reduceEq, false_implies, not_false_eq_true, forall_const, true_and, not_true_eq_false, and_true]
  refine nd_must 224 hn h1 (by omega) rfl (q_le_s q_day_dd (q_le_s q_exp_dd (q_le_s q_named_dd (q_le_s q_exp_dd (q_le_s q_named_dd q_le_r))))) (fun N d => nb0 (q0 N d)) (fun M2 h2 => nb1 ?_)
  refine nd_name 0 hn h2 (by omega) (q_le_s q_day_dd (q_le_s q_exp_dd (q_le_s q_named_dd (q_le_s q_exp_dd q_le_r)))) (fun N d => nb0 (q0 N d)) (fun M3 h3 => nb1 ?_)
  refine nd_must 225 hn h3 (by omega) rfl (q_le_s q_day_dd (q_le_s q_exp_dd (q_le_s q_named_dd q_le_r))) (fun N d => nb0 (q0 N d)) (fun M4 h4 => nb1 ?_)
  refine nd_name 1 hn h4 (by omega) (q_le_s q_day_dd (q_le_s q_exp_dd q_le_r)) (fun N d => nb0 (q0 N d)) (fun M5 h5 => nb1 ?_)
  refine nd_must 235 hn h5 (by omega) rfl (q_le_s q_day_dd q_le_r) (fun N d => nb0 (q0 N d)) (fun M6 h6 => nb1 ?_)
  exact nd_date hn h6 (q_le_r) (fun N d => nb0 (q0 N d)) (fun M7 h7 => nb1 (q1 _ _ _ h7))
theorem fa_220 {B M : e_M} {T : q_Tk} {E : Nat → Int} {n x : Nat} {s : q_S} {Q : Int → e_M → Prop} (hn : n_hn B T E n) (h : n_rd B M T E n x 0 0 s) (q0 : ∀ M', n_dd B M' x (q_named T n 6 (s)) → Q 0 M') (q1 : ∀ M' j p, n_rd B M' T E n x j p (q_named T n 6 (s)) → Q 1 M') : WX12_first 34 M Q := by
  unfold WX12_first VX12_first
  refine nd_name 6 hn h (by omega) (q_le_r) (fun N d => nc0 (q0 N d)) (fun M1 h1 => nc1 ?_)
  simp only [Int.reduceEq, false_implies, not_false_eq_true, forall_const, true_and, not_true_eq_false, and_true]
  exact q1 _ _ _ h1
theorem fa_221 {B M : e_M} {T : q_Tk} {E : Nat → Int} {n x : Nat} {s : q_S} {Q : Int → e_M → Prop} (hn : n_hn B T E n) (h : n_rd B M T E n x 0 0 s) (q0 : ∀ M', n_dd B M' x (q_named T n 13 (s)) → Q 0 M') (q1 : ∀ M' j p, n_rd B M' T E n x j p (q_named T n 13 (s)) → Q 1 M') : WX12_first 35 M Q := by
  unfold WX12_first VX12_first
  refine nd_name 13 hn h (by omega) (q_le_r) (fun N d => nc0 (q0 N d)) (fun M1 h1 => nc1 ?_)
  simp only [Int.reduceEq, false_implies, not_false_eq_true, forall_const, true_and, not_true_eq_false, and_true]
  exact q1 _ _ _ h1
