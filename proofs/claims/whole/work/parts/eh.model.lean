/-! the model's reading: shares, PARTS, names, POINTS -/
/-- nothing of PARTS and POINTS is changed -/
def q_sm2 (s s' : q_S) : Prop := s'.2.2.2.1 15 = s.2.2.2.1 15 ∧ s'.2.2.2.2.2.2.1 = s.2.2.2.2.2.2.1 ∧ s'.2.2.2.1 18 = s.2.2.2.1 18 ∧ s'.2.2.2.2.2.2.2 = s.2.2.2.2.2.2.2
theorem q_sm_D {s s' : q_S} (e : s'.2.2.2 = s.2.2.2) : q_sm2 s s' := by unfold q_sm2; rw [e]; exact ⟨rfl, rfl, rfl, rfl⟩
theorem q_sm_exp {T : q_Tk} {n : Nat} {k : Int} {s : q_S} : q_sm2 s (q_exp T n k s) := q_sm_D q_exp_D
theorem q_sm_set {k : Nat} {v : Int} {s s' : q_S} (hk : k ≠ 15 ∧ k ≠ 18) (e : s'.2.2.2 = s.2.2.2) : q_sm2 s (q_D (qd_set k v) s') := by
  unfold q_sm2 q_D qd_set
  dsimp only
  rw [e, s_fu_ne (by omega), s_fu_ne (by omega)]
  exact ⟨rfl, rfl, rfl, rfl⟩
theorem q_named_D {T : q_Tk} {n : Nat} {w : Int} {s : q_S} : (q_named T n w s).2.2.2 = qd_name (q_val T s) w s.2.2.2 := q_exp_D
theorem q_sm_named {T : q_Tk} {n : Nat} {w : Int} {s : q_S} : q_sm2 s (q_named T n w s) := by
  unfold q_sm2
  rw [q_named_D]
  unfold qd_name
  split
  · dsimp only
    rw [s_fu_ne (by omega), s_fu_ne (by omega)]
    exact ⟨rfl, rfl, rfl, rfl⟩
  · exact ⟨rfl, rfl, rfl, rfl⟩
theorem q_date_D {T : q_Tk} {n : Nat} {s : q_S} : (q_date T n s).2.2.2 = s.2.2.2 := by
  unfold q_date
  rw [q_exp_D]
  split
  · exact q_note_D
  · rfl
theorem n_rd_st {B M M' : e_M} {T : q_Tk} {E : Nat → Int} {n x : Nat} {j j' p : Int} {s s' : q_S} (h : n_rd B M T E n x j p s) (h' : n_co B M' T E n x j' s') (z : n_pz M M') (e : q_sm2 s s') (hp : p ≤ 0 ∨ j' = j) : n_rd B M' T E n x j' p s' := by
  obtain ⟨h1, ⟨z1, z2, z3⟩, ⟨y1, y2⟩, h4⟩ := h
  obtain ⟨e1, e2, e3, e4⟩ := e
  refine ⟨h', ?_, ?_, e1.trans h4⟩
  · unfold P_z j_pts at *
    rw [e1, e2, z 4470 (by omega) (by omega), z 4471 (by omega) (by omega), z 4472 (by omega) (by omega), z 4473 (by omega) (by omega)]
    refine ⟨z1, z2, fun g => ?_⟩
    rw [z3 g, h'.2.2.2.1, h1.2.2.2.1]
    omega
  · unfold P_y j_ps at *
    rw [e3, e4, z 4474 (by omega) (by omega), z 4475 (by omega) (by omega), z 4476 (by omega) (by omega)]
    exact ⟨y1, y2⟩
theorem nd_must {B M : e_M} {T : q_Tk} {E : Nat → Int} {n x : Nat} {j p : Int} {s r : q_S} {w : Int} (k : Int) {Q : Int → e_M → Prop} (hn : n_hn B T E n) (h : n_rd B M T E n x j p s) (hk : 200 ≤ k ∧ k ≤ 270) (hw : q_wm k = w) (l : q_le (q_exp T n k s) r) (q0 : ∀ M', n_dd B M' x r → Q 0 M') (q1 : ∀ M', n_rd B M' T E n x j p (q_exp T n k s) → Q 1 M') : WX12_must w M Q :=
  co_must k hn h.1 hk hw l q0 (fun M' a z => q1 M' (n_rd_st h a z q_sm_exp (Or.inr rfl)))
theorem nd_sign {B M : e_M} {T : q_Tk} {E : Nat → Int} {n x : Nat} {j p : Int} {s r : q_S} {c : Int} (k : Int) {Q : Int → e_M → Prop} (hn : n_hn B T E n) (h : n_rd B M T E n x j p s) (hk : q_sg k) (hc : q_sm k = c) (l : q_le (q_exp T n k s) r) (q0 : ∀ M', n_dd B M' x r → Q 0 M') (q1 : ∀ M', n_rd B M' T E n x j p (q_exp T n k s) → Q 1 M') : WX12_mustSign c M Q :=
  co_sign k hn h.1 hk hc l q0 (fun M' a z => q1 M' (n_rd_st h a z q_sm_exp (Or.inr rfl)))
theorem nd_good0 {B M : e_M} {T : q_Tk} {E : Nat → Int} {n x : Nat} {j p : Int} {s r : q_S} {Q : Int → e_M → Prop} (hn : n_hn B T E n) (h : n_rd B M T E n x j p s) (ht : (T s.1).1 ≠ 0) (l : q_le (q_take T n s) r) (q0 : ∀ M', n_dd B M' x r → Q 0 M') (q1 : ∀ M', n_rd B M' T E n x j p (q_take T n s) → Q 1 M') : WX12_good 0 M Q :=
  co_good0 hn h.1 ht l q0 (fun M' a z => q1 M' (n_rd_st h a z (q_sm_D q_take_D) (Or.inr rfl)))
theorem nd_name {B M : e_M} {T : q_Tk} {E : Nat → Int} {n x : Nat} {j : Int} {s r : q_S} (w : Int) {Q : Int → e_M → Prop} (hn : n_hn B T E n) (h : n_rd B M T E n x j 0 s) (hj : 0 ≤ j ∧ j < 8) (l : q_le (q_named T n w s) r) (q0 : ∀ M', n_dd B M' x r → Q 0 M') (q1 : ∀ M', n_rd B M' T E n x (j + 1) 0 (q_named T n w s) → Q 1 M') : WX12_mustName 0 M Q :=
  co_name w hn h.1 hj l q0 (fun M' a z => q1 M' (n_rd_st h a z q_sm_named (Or.inl (by decide))))
theorem nd_amt {B M : e_M} {T : q_Tk} {E : Nat → Int} {n x : Nat} {j p : Int} {s r : q_S} {Q : Int → e_M → Prop} (hn : n_hn B T E n) (h : n_rd B M T E n x j p s) (l : q_le (q_amt T n s) r) (q0 : ∀ M', n_dd B M' x r → Q 0 M') (q1 : ∀ M', n_rd B M' T E n x j p (q_amt T n s) → Q 1 M') : WX12_mustAmount M Q :=
  co_amt hn h.1 l q0 (fun M' a z => q1 M' (n_rd_st h a z (q_sm_set (by omega) q_exp_D) (Or.inr rfl)))
theorem nd_date {B M : e_M} {T : q_Tk} {E : Nat → Int} {n x : Nat} {j p : Int} {s r : q_S} {Q : Int → e_M → Prop} (hn : n_hn B T E n) (h : n_rd B M T E n x j p s) (l : q_le (q_day T n 8 s) r) (q0 : ∀ M', n_dd B M' x r → Q 0 M') (q1 : ∀ M', n_rd B M' T E n x j p (q_day T n 8 s) → Q 1 M') : WX12_mustDate M Q :=
  co_date hn h.1 l q0 (fun M' a z => q1 M' (n_rd_st h a z (q_sm_set (by omega) q_date_D) (Or.inr rfl)))
/-- a word of the model's own changed: up, down -/
theorem n_co_w {B M : e_M} {T : q_Tk} {E : Nat → Int} {n x k : Nat} {j v : Int} {s : q_S} (h : n_co B M T E n x j s) (hk : k = 36 ∨ k = 37) : n_co B (e_up M 4456 k v) T E n x j s ∧ n_pz M (e_up M 4456 k v) := by
  obtain ⟨⟨h1, ⟨h2, h3, h4, h5⟩, h6⟩, g2, g3, g4, g5⟩ := h
  have r : ∀ i, i ≠ 36 → i ≠ 37 → e_up M 4456 k v 4456 i = M 4456 i := fun i a b => e_up_ne (by omega)
  have o : ∀ b, b ≠ 4456 → e_up M 4456 k v b = M b := fun b hb => e_up_row hb
  refine ⟨⟨⟨h1, ⟨⟨fun b hb => by rw [o b (by omega)]; exact h2.1 b hb, by rw [r 5 (by omega) (by omega)]; exact h2.2⟩, h3, by rw [r 6 (by omega) (by omega)]; exact h4, ?_⟩, by rw [r 12 (by omega) (by omega)]; exact h6⟩, ⟨by rw [r 35 (by omega) (by omega)]; exact g2.1, g2.2⟩, P_a_congr g3 (fun b b1 b2 => o b (by omega)), g4, ?_⟩, fun b b1 b2 => o b (by omega)⟩
  · unfold n_tk at *
    rw [r 7 (by omega) (by omega), r 8 (by omega) (by omega), r 9 (by omega) (by omega), r 10 (by omega) (by omega), r 11 (by omega) (by omega)]
    exact h5
  · obtain ⟨f1, f2, f3, f4, f5, f6⟩ := g5
    exact ⟨fun b hb hb2 => by rw [o b hb]; exact f1 b hb hb2, fun b y a1 a2 a3 a4 a5 a6 a7 a8 => by rw [o b (by omega)]; exact f2 b y a1 a2 a3 a4 a5 a6 a7 a8, fun i hi => by rw [o _ (by omega)]; exact f3 i hi, fun i hi => by rw [o _ (by omega), o _ (by omega)]; exact f4 i hi, fun i hi => by rw [o _ (by omega), o _ (by omega)]; exact f5 i hi, fun i hi => by rw [e_up_ne (by omega)]; exact f6 i hi⟩
theorem q_chk_e {T : q_Tk} {s : q_S} (h : s.2.1 = 0) (ht : (T s.1).1 = 3) : (q_chk T s = s ∧ 1 ≤ q_val T s ∧ q_val T s ≤ 1000) ∨ (q_chk T s = q_note T 2 s ∧ (q_val T s < 1 ∨ 1000 < q_val T s)) := by
  by_cases g : q_val T s < 1 ∨ 1000 < q_val T s
  · exact Or.inr ⟨if_pos ⟨by rw [q_tk0 h]; exact ht, g⟩, g⟩
  · exact Or.inl ⟨if_neg (fun z => g z.2), by omega⟩
theorem q_chk_3 {T : q_Tk} {n : Nat} {s : q_S} (h : s.2.1 = 0) (ht : (T s.1).1 ≠ 3) : q_exp T n 3 (q_chk T s) = q_note T 1 s := by
  have e : q_chk T s = s := if_neg (fun z => ht (by have := z.1; rw [q_tk0 h] at this; exact this))
  rw [e]
  exact if_neg (by rw [q_tk0 h]; exact ht)
theorem s_div32 {a g : Int} (ha : 1 ≤ a) (ha2 : a ≤ 1000) (hg : 0 < g) (hg2 : g ≤ a) : e_w32 (a.tdiv g) = a / g := by
  have e : a.tdiv g = a / g := Int.tdiv_eq_ediv_of_nonneg (by omega)
  obtain ⟨_, h1, h2⟩ := s_div_rng ha ha2 hg hg2
  rw [e]
  exact e_w32_id ⟨by omega, by omega⟩
theorem co_share {B M : e_M} {T : q_Tk} {E : Nat → Int} {n x : Nat} {j : Int} {s r : q_S} {Q : Int → e_M → Prop} (hn : n_hn B T E n) (h : n_co B M T E n x j s) (l : q_le (q_share T n s) r) (q0 : ∀ M', n_dd B M' x r → Q 0 M') (q1 : ∀ M', n_co B M' T E n x j (q_share T n s) → n_pz M M' → M' 4456 36 = (q_sv T n s).1 → M' 4456 37 = (q_sv T n s).2 → Q 1 M') : WX12_mustShare M Q := by
  have tk := h.1.2.1.2.2.2
  obtain ⟨a0, a1, a2, a3, a4⟩ := n_kd tk
  have d2 : q_dd (fun y => q_exp T n 3 (q_chk T y)) := q_dd_c (p := q_chk T) (q := q_exp T n 3) q_chk_dd q_exp_dd
  have d3 : q_dd (fun y => q_exp T n 3 (q_chk T (q_exp T n 47 y))) := q_dd_c (p := q_exp T n 47) (q := fun y => q_exp T n 3 (q_chk T y)) q_exp_dd d2
  have ls : q_le (q_exp T n 3 (q_chk T s)) r := fun z => by
    have a := d3 _ z
    have b := l (by show (q_exp T n 3 (q_chk T (q_exp T n 47 (q_exp T n 3 (q_chk T s))))).2.1 ≠ 0; rw [a.1]; exact z)
    exact ⟨b.1.trans a.1, b.2.trans a.2.1⟩
  have ls2 : q_le (q_s2 T n s) r := fun z => by
    have a := d2 _ z
    have b := l (by show (q_exp T n 3 (q_chk T (q_s2 T n s))).2.1 ≠ 0; rw [a.1]; exact z)
    exact ⟨b.1.trans a.1, b.2.trans a.2.1⟩
  have lk : ∀ {y : q_S} {k : Int}, q_le (q_exp T n 3 (q_note T k y)) r → q_le (q_note T k y) r := fun {y k} g z => by
    have a := q_exp_dd (T := T) (n := n) (k := 3) _ z
    have b := g (by rw [a.1]; exact z)
    exact ⟨b.1.trans a.1, b.2.trans a.2.1⟩
  unfold WX12_mustShare VX12_mustShare
  refine ⟨fun g M1 e1 => ?_, fun g => ?_⟩
  · have e3 := a2.mp g
    have hv := (hn.2.1 s.1).1 e3
    have ev : q_val T s = (T s.1).2.2 := rfl
    rw [n_num tk (Or.inr e3)] at e1
    obtain ⟨h1, z1⟩ := n_co_w (k := 36) (v := (T s.1).2.2) h (Or.inl rfl)
    rw [← e1] at h1 z1
    have r36 : M1 4456 36 = (T s.1).2.2 := by rw [e1, e_up_eq]
    rw [r36]
    have bad : q_chk T s = q_note T 2 s → WX12_mustShare_40 Q M1 := fun z => by
      rw [z] at ls
      exact co_goodk h1 (by decide) (lk ls) (fun M' a => nb0 (q0 M' a))
    have good : q_chk T s = s → 1 ≤ q_val T s ∧ q_val T s ≤ 1000 → WX12_mustShare_45 Q 0 M1 := fun z hv1 => by
      have eq : q_exp T n 3 (q_chk T s) = q_take T n s := by rw [z]; exact if_pos (by rw [q_tk0 h.1.1]; exact e3)
      rw [eq] at ls
      refine n_good0 hn h1.1 (by omega) (fun M2 a2 f2 => nb1 ?_) (fun M' a f => nb0 (q0 M' (n_dd_l ⟨a, n_fx_t h1.2.2.2.2 f⟩ ls)))
      have h2 := n_co_of h1 a2 f2 q_take_D
      have es2 : q_s2 T n s = q_exp T n 47 (q_take T n s) := by unfold q_s2; rw [eq]
      have ls3 := ls2
      rw [es2] at ls3
      refine n_mustSign (k := 47) hn h2.1 (by unfold q_sg; omega) rfl (fun M3 a3 f3 => nc1 ?_) (fun M' a f => nc0 (q0 M' (n_dd_l ⟨a, n_fx_t h2.2.2.2.2 f⟩ ls3)))
      have h3 := n_co_of h2 a3 f3 q_exp_D
      rw [← es2] at h3
      have tk3 := h3.1.2.1.2.2.2
      obtain ⟨b0, b1, b2, b3, b4⟩ := n_kd tk3
      have sh : q_share T n s = q_exp T n 3 (q_chk T (q_s2 T n s)) := rfl
      refine ⟨fun g3 M4 e4 => ?_, fun g3 => ?_⟩
      · have e33 := b2.mp g3
        have hv3 := (hn.2.1 _).1 e33
        rw [n_num tk3 (Or.inr e33)] at e4
        obtain ⟨h4, z4⟩ := n_co_w (k := 37) (v := (T (q_s2 T n s).1).2.2) h3 (Or.inr rfl)
        rw [← e4] at h4 z4
        have r37 : M4 4456 37 = (T (q_s2 T n s).1).2.2 := by rw [e4, e_up_eq]
        have r36' : M4 4456 36 = (T s.1).2.2 := by rw [e4, e_up_ne (by omega), f3.2 36 (by omega), f2.2 36 (by omega)]; exact r36
        rw [r37]
        have bad2 : q_chk T (q_s2 T n s) = q_note T 2 (q_s2 T n s) → WX12_mustShare_102 Q M4 := fun z => by
          rw [sh, z] at l
          exact co_goodk h4 (by decide) (lk l) (fun M' a => nc0 (q0 M' a))
        have good2 : q_chk T (q_s2 T n s) = q_s2 T n s → 1 ≤ q_val T (q_s2 T n s) ∧ q_val T (q_s2 T n s) ≤ 1000 → WX12_mustShare_107 Q 0 M4 := fun z hv4 => by
          have eq2 : q_share T n s = q_take T n (q_s2 T n s) := by rw [sh, z]; exact if_pos (by rw [q_tk0 h4.1.1]; exact e33)
          rw [eq2] at l q1
          refine n_good0 hn h4.1 (by omega) (fun M5 a5 f5 => nc1 ?_) (fun M' a f => nc0 (q0 M' (n_dd_l ⟨a, n_fx_t h4.2.2.2.2 f⟩ l)))
          have h5 := n_co_of h4 a5 f5 q_take_D
          rw [f5.2 36 (by omega), f5.2 37 (by omega), r36', r37]
          have ev3 : q_val T (q_s2 T n s) = (T (q_s2 T n s).1).2.2 := rfl
          refine m_divisor (by omega) (by omega) ?_
          have eg : s_gcd (q_val T s) (q_val T (q_s2 T n s)) = (Int.gcd (T s.1).2.2 (T (q_s2 T n s).1).2.2 : Int) := by
            unfold s_gcd
            rw [if_neg (fun z => by rw [Int.gcd_eq_zero_iff] at z; omega)]
            rfl
          have gp := s_gcd_pos (a := q_val T s) (b := q_val T (q_s2 T n s))
          have l1 := s_gcd_le (b := q_val T (q_s2 T n s)) hv1.1
          have l2 : s_gcd (q_val T s) (q_val T (q_s2 T n s)) ≤ q_val T (q_s2 T n s) := by
            have := s_gcd_le (b := q_val T s) hv4.1
            unfold s_gcd at *
            rw [Int.gcd_comm]
            exact this
          rw [← eg]
          generalize hg : s_gcd (q_val T s) (q_val T (q_s2 T n s)) = gg at *
          rw [show e_w32 gg = gg from e_w32_id ⟨by omega, by omega⟩]
          refine ⟨by omega, fun M6 e6 => ⟨by omega, fun M7 e7 => ?_⟩⟩
          have o37 : M6 4456 37 = (T (q_s2 T n s).1).2.2 := by rw [e6, e_up_ne (by omega), f5.2 37 (by omega), r37]
          rw [o37] at e7
          obtain ⟨k1, k2, k3⟩ := s_div_rng hv1.1 hv1.2 gp l1
          obtain ⟨m1, m2, m3⟩ := s_div_rng hv4.1 hv4.2 gp l2
          rw [← ev, s_div32 hv1.1 hv1.2 gp l1] at e6
          rw [← ev3, s_div32 hv4.1 hv4.2 gp l2] at e7
          obtain ⟨h6, z6⟩ := n_co_w (k := 36) (v := q_val T s / gg) h5 (Or.inl rfl)
          rw [← e6] at h6 z6
          obtain ⟨h7, z7⟩ := n_co_w (k := 37) (v := q_val T (q_s2 T n s) / gg) h6 (Or.inr rfl)
          rw [← e7] at h7 z7
          refine q1 M7 h7 (n_pz_t z1 (n_pz_t (n_pz_f f2) (n_pz_t (n_pz_f f3) (n_pz_t z4 (n_pz_t (n_pz_f f5) (n_pz_t z6 z7)))))) ?_ ?_
          · unfold q_sv
            rw [hg, e7, e_up_ne (by omega), e6, e_up_eq]
          · unfold q_sv
            rw [hg, e7, e_up_eq]
        refine ⟨fun z => bad2 ?_, fun z => ⟨fun z2 => good2 ?_ ?_, fun z2 => bad2 ?_⟩⟩
        all_goals rcases q_chk_e h3.1.1 e33 with ⟨u1, u2⟩ | ⟨u1, u2⟩ <;> unfold q_val at u2 <;> first | exact u1 | omega | (unfold q_val; omega)
      · have e33 : (T (q_s2 T n s).1).1 ≠ 3 := fun z => g3 (b2.mpr z)
        rw [sh, q_chk_3 h3.1.1 e33] at l
        exact co_wrong h3 (by decide) l (fun M' a => nz0 (q0 M' a))
    refine ⟨fun z => bad ?_, fun z => ⟨fun z2 => good ?_ ?_, fun z2 => bad ?_⟩⟩
    all_goals rcases q_chk_e h.1.1 e3 with ⟨u1, u2⟩ | ⟨u1, u2⟩ <;> unfold q_val at u2 <;> first | exact u1 | omega | (unfold q_val; omega)
  · have e3 : (T s.1).1 ≠ 3 := fun z => g (a2.mpr z)
    rw [q_chk_3 h.1.1 e3] at ls
    exact co_wrong h (by decide) ls (fun M' a => nz0 (q0 M' a))
