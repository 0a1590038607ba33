/-! THE MODEL: AUCTION as a whole -/
theorem t_leave_R {day : Int} {s : Nat} {x y : w_T} {l : Int} (h : R_t day s x y) (hs : 2 ≤ s) (h3 : s ≠ 3) (ht : t_thr x day = true) : R_t day s (t_leave x l) (t_leave y l) := by
  obtain ⟨r1, r2, r3⟩ := h
  obtain ⟨b1, b2, b3, b4, b5, b6, b7⟩ := r3 ht
  have er : y.2.1 = x.2.1 := (b4 h3).1
  have k : ∀ (t : w_T) (k : Nat), k ≠ 2 → (t_leave t l).1 k = t.1 k := fun t k hk => t_leave_1 hk
  by_cases c : (r_del x.2.1 l).length = 0
  · have g1 : (t_leave x l).1 2 = 1 := by unfold t_leave; rw [if_pos c]; exact (s_fu_eq : s_fu x.1 2 1 2 = 1)
    have g2 : (t_leave y l).1 2 = 1 := by unfold t_leave; rw [er, if_pos c]; exact (s_fu_eq : s_fu y.1 2 1 2 = 1)
    refine ⟨by rw [k y 0 (by omega), k x 0 (by omega)]; exact r1, by rw [t_thr_gone g1, t_thr_gone g2], fun z => by rw [t_thr_gone g1] at z; cases z⟩
  · have g1 : (t_leave x l).1 = x.1 := by unfold t_leave; rw [if_neg c]
    have g2 : (t_leave y l).1 = y.1 := by unfold t_leave; rw [er, if_neg c]
    refine ⟨by rw [g1, g2]; exact r1, ?_, fun _ => ?_⟩
    · unfold t_thr at r2 ⊢
      rw [g1, g2]; exact r2
    · refine ⟨fun h => by rw [g1, g2]; exact b1 h, fun h => by rw [g1, g2]; exact b2 h, fun h => absurd h h3, fun h => ⟨?_, (b4 h).2⟩, fun h => by rw [g1, g2]; exact b5 h, fun h => by rw [g1, g2]; exact b6 h, fun h => by rw [g1, g2]; exact b7 h⟩
      show r_del y.2.1 l = r_del x.2.1 l
      rw [er]
theorem t_gone_R {day : Int} {s : Nat} {x y x' y' : w_T} (h : R_t day s x y) (e1 : x'.1 0 = x.1 0) (e2 : y'.1 0 = y.1 0) (g1 : t_thr x' day = false) (g2 : t_thr y' day = false) : R_t day s x' y' := ⟨by rw [e1, e2]; exact h.1, by rw [g1, g2], fun z => by rw [g1] at z; cases z⟩
theorem t_off_thr {day : Int} {x : w_T} (h : ¬ t_thr x day = true) : t_thr x day = false := by
  cases e : t_thr x day with
  | false => rfl
  | true => exact absurd e h
theorem w_endc_d {S : w_S} {c : Nat} : (w_endc S c).2.2.2 = S.2.2.2 := by
  show (w_dels S c (S.2.2.1 (w_F 2 + c)).2.1).2.2.2 = _
  rw [(w_dels_t (c := (c : Int)) (ls := (S.2.2.1 (w_F 2 + c)).2.1) (S := S)).1]
theorem w_auc_s1 {l f : Nat} : ∀ (k : Nat) (S0 S : w_S) (left : Int), w_s1 S0 S → w_s1 S0 (w_auc l f k S left) ∧ (w_auc l f k S left).1 = S.1 ∧ (w_auc l f k S left).2.2.2 = S.2.2.2 := by
  intro k
  induction k with
  | zero => exact fun S0 S left h => ⟨h, rfl, rfl⟩
  | succ k ih =>
    intro S0 S left h
    by_cases c : f < (S.2.1 l).2.2.1.length
    · have hc := List.getElem?_eq_getElem c
      rw [w_auc_go c hc]
      have hp : w_s1 S0 (w_put S (w_F 2 + ((S.2.1 l).2.2.1[f]).toNat) 6 ((w_t S 2 ((S.2.1 l).2.2.1[f]).toNat).1 6 - e_min left ((w_t S 2 ((S.2.1 l).2.2.1[f]).toNat).1 6))) := w_s1_put h (by omega)
      split
      · obtain ⟨a1, a2, a3⟩ := ih S0 _ (left - e_min left ((w_t S 2 ((S.2.1 l).2.2.1[f]).toNat).1 6)) (w_s1_endc (c := ((S.2.1 l).2.2.1[f]).toNat) (w_s1_free (l := l) (c := ((S.2.1 l).2.2.1[f]).toNat) hp))
        refine ⟨a1, by rw [a2, w_endc_z, w_free_z]; rfl, ?_⟩
        rw [a3, w_endc_d, w_free_d]; rfl
      · obtain ⟨a1, a2, a3⟩ := ih S0 _ (left - e_min left ((w_t S 2 ((S.2.1 l).2.2.1[f]).toNat).1 6)) (w_s1_free (l := l) (c := ((S.2.1 l).2.2.1[f]).toNat) hp)
        exact ⟨a1, by rw [a2, w_free_z]; rfl, by rw [a3, w_free_d]; rfl⟩
    · rw [w_auc_stop (by omega)]
      exact ⟨h, rfl, rfl⟩
theorem w_dels_sub {c : Int} : ∀ {ls : List Int} {S : w_S} {k : Nat} {x : Int}, x ∈ ((w_dels S c ls).2.1 k).2.2.1 → x ∈ (S.2.1 k).2.2.1
  | [], _, _, _, h => h
  | l :: ls, S, k, x, h => by
    have h1 : x ∈ ((w_dels (w_chg S l.toNat (r_del (S.2.1 l.toNat).2.2.1 c)) c ls).2.1 k).2.2.1 := h
    have h2 := w_dels_sub h1
    change x ∈ (s_fu S.2.1 l.toNat _ k).2.2.1 at h2
    by_cases e : k = l.toNat
    · rw [e, s_fu_eq] at h2
      rw [e]
      exact r_del_sub h2
    · rw [s_fu_ne e] at h2
      exact h2
/-- things that are no CHARGES stay as they are -/
theorem w_auc_t {l f : Nat} : ∀ (k : Nat) (S : w_S) (left : Int), (∀ c ∈ (w_l S l).2.2.1, c.toNat < 40) → ∀ j, (j < 40 ∨ 80 ≤ j) → (w_auc l f k S left).2.2.1 j = S.2.2.1 j := by
  intro k
  have f2 : w_F 2 = 40 := rfl
  induction k with
  | zero => exact fun S left h j hj => rfl
  | succ k ih =>
    intro S left h j hj
    by_cases c : f < (S.2.1 l).2.2.1.length
    · have hc := List.getElem?_eq_getElem c
      have h0 := h _ (List.mem_of_getElem? hc)
      rw [w_auc_go c hc]
      generalize (S.2.1 l).2.2.1[f] = c0 at *
      generalize (w_t S 2 c0.toNat).1 6 - e_min left ((w_t S 2 c0.toNat).1 6) = v at *
      have t2 : (w_free (w_put S (w_F 2 + c0.toNat) 6 v) l c0.toNat).2.2.1 j = S.2.2.1 j := by
        unfold w_free
        rw [w_leave_eq]
        show s_fu (s_fu S.2.2.1 _ _) _ _ j = _
        rw [s_fu_ne (by omega), s_fu_ne (by omega)]
      have r2 : ∀ x ∈ (w_l (w_free (w_put S (w_F 2 + c0.toNat) 6 v) l c0.toNat) l).2.2.1, x.toNat < 40 := fun x hx => by
        rw [w_free_l, if_pos rfl] at hx
        exact h x (r_del_sub hx)
      split
      · generalize w_free (w_put S (w_F 2 + c0.toNat) 6 v) l c0.toNat = Y at *
        refine (ih (w_endc Y c0.toNat) _ (fun x hx => r2 x (w_dels_sub (c := (c0.toNat : Int)) (ls := (Y.2.2.1 (w_F 2 + c0.toNat)).2.1) (S := Y) (k := l) hx)) j hj).trans ?_
        show s_fu (s_fu (w_dels _ _ _).2.2.1 _ _) _ _ j = _
        rw [s_fu_ne (by omega), s_fu_ne (by omega), (w_dels_t).1]
        exact t2
      · rw [ih _ _ r2 j hj]; exact t2
    · rw [w_auc_stop (by omega)]
theorem o_give_nil {p : Int} : o_give [] p 1 1 = [(p, 1, 1)] := by
  have e : o_fd [] p = -1 := r_find_no (fun h => by cases h)
  have r : s_red 1 1 = (1, 1) := by decide
  unfold o_give
  rw [if_neg (by rw [e]; omega), if_neg (by decide)]
  show [(p, s_red (0 * 1 + 1 * 1) (1 * 1))] = _
  rw [show (0 * 1 + 1 * 1 : Int) = 1 by decide, show (1 * 1 : Int) = 1 by decide, r]
theorem m_auction {M : e_M} {V : Nat → v_D} {S : w_S} {a : Int} {d x : Nat} {r : Nat → Int} {Q : Int → e_M → Prop} (h : R_all M V S a) (hx : x < 152) (hnu : M 4464 x = (V d).1 9) (hnb : 0 ≤ (V d).1 9 ∧ (V d).1 9 ≤ 999999) (i0 : M 4520 0 = r 0) (i1 : M 4520 1 = r 1) (i2 : M 4520 2 = r 2) (h0 : 0 ≤ r 0 ∧ r 0 < S.1 0) (g0 : (w_l S (r 0).toNat).1 1 = 0) (h1 : 0 ≤ r 1 ∧ r 1 < S.1 2) (t1 : w_thr S 2 (r 1).toNat = true) (h2 : 0 ≤ r 2 ∧ r 2 < S.1 1) (hC : I_C S) (ham : w_am S) (h5 : ∀ i : Nat, (i : Int) < S.1 5 → w_thr S 5 i = true → (w_t S 5 i).2.1.length = 1) (hq : j_q M V a Q (X_auction V S r d)) : WX12_auction x M Q := by
  obtain ⟨hn, hc, hR, hz, hg, hd⟩ := id h
  obtain ⟨l, el⟩ : ∃ l : Nat, r 0 = l := ⟨(r 0).toNat, by omega⟩
  obtain ⟨c, ec⟩ : ∃ c : Nat, r 1 = c := ⟨(r 1).toNat, by omega⟩
  obtain ⟨p, ep⟩ : ∃ p : Nat, r 2 = p := ⟨(r 2).toNat, by omega⟩
  have hl : (l : Int) < S.1 0 := by omega
  have hci : (c : Int) < S.1 2 := by omega
  have hp : (p : Int) < S.1 1 := by omega
  have l80 := R_mx hz (show 0 < 7 by omega) hl
  have c80 := R_mx hz (show 2 < 7 by omega) hci
  have tl : ((l : Nat) : Int).toNat = l := by omega
  have tc : ((c : Nat) : Int).toNat = c := by omega
  have tp : ((p : Nat) : Int).toNat = p := by omega
  unfold X_auction at hq
  rw [el, ec, ep, tl, tc, tp] at hq
  rw [el, tl] at g0
  rw [ec, tc] at t1
  have jk := (hn.2.2.1 l l80).2.1
  have ej := (R_lo hR hz hl).2.1
  obtain ⟨-, c1, -, -, -, c5, -⟩ := n_c (M := M) (t := 80 * 2 + c) (by omega)
  have e5 := R_who (s := 2) hR ⟨by omega, by omega, by omega⟩ hci t1
  have q9 : r_find (w_l S l).2.2.1 c < 0 → j_q M V a Q (9, S) := fun g => j_qx (c_if_pos g) hq
  have q2 : 0 ≤ r_find (w_l S l).2.2.1 c → w_abl S p = false → j_q M V a Q (2, S) := fun g1 g2 => j_qx ((c_if_neg (Int.not_lt.mpr g1)).trans (c_if_pos g2)) hq
  have q4 : 0 ≤ r_find (w_l S l).2.2.1 c → w_abl S p = true → w_bar S l ((w_t S 2 c).1 5) → j_q M V a Q (4, S) := fun g1 g2 g3 => j_qx ((c_if_neg (Int.not_lt.mpr g1)).trans ((c_if_neg (b_tf g2)).trans (c_if_pos g3))) hq
  have q6 : 0 ≤ r_find (w_l S l).2.2.1 c → w_abl S p = true → ¬ w_bar S l ((w_t S 2 c).1 5) → (V d).1 9 = 0 → j_q M V a Q (6, S) := fun g1 g2 g3 g4 => j_qx ((c_if_neg (Int.not_lt.mpr g1)).trans ((c_if_neg (b_tf g2)).trans ((c_if_neg g3).trans (c_if_pos g4)))) hq
  have q0 : 0 ≤ r_find (w_l S l).2.2.1 c → w_abl S p = true → ¬ w_bar S l ((w_t S 2 c).1 5) → ¬ (V d).1 9 = 0 → j_q M V a Q (0, w_auction S l (r_find (w_l S l).2.2.1 c).toNat p ((V d).1 9) ((w_t S 2 c).1 1)) := fun g1 g2 g3 g4 => j_qx ((c_if_neg (Int.not_lt.mpr g1)).trans ((c_if_neg (b_tf g2)).trans ((c_if_neg g3).trans (c_if_neg g4)))) hq
  clear hq
  have hwp := (hg.2 1 p (by omega) (by omega) (by show (p : Int) < S.1 1; exact hp)).1.1
  unfold WX12_auction VX12_auction
  rw [show (0 : Int).toNat = 0 from rfl, show (1 : Int).toNat = 1 from rfl, show (2 : Int).toNat = 2 from rfl, i0, i1, i2, el, ec, ep, R_day hR]
  refine ⟨by omega, by omega, by omega, m_rankAt (by omega) (by rw [tl]; exact jk) ?_⟩
  rw [tl, ej]
  generalize hf : r_find (w_l S l).2.2.1 (c : Int) = f at *
  refine ⟨fun ge => m_isAble hc hR hz hd hp hwp (fun ab => ⟨fun _ => ?_, fun z => by omega⟩) (fun ab => ⟨fun z => absurd rfl z, fun _ => j_q_no h (q2 ge ab)⟩), fun lt => j_q_no h (q9 lt)⟩
  refine m_idt (t := 80 * 2 + c) (by omega) (by omega) (by omega) ?_
  rw [show (((80 * 2 + c : Nat)) : Int).toNat = 80 * 2 + c by omega, c5, e5]
  refine ⟨by omega, m_isBarred h (fun b => ⟨fun z => by omega, fun _ => j_q_no h (q4 ge ab b)⟩) (fun nb => ⟨fun _ => ?_, fun z => absurd rfl z⟩)⟩
  rw [show ((x : Nat) : Int).toNat = x by omega, hnu]
  refine ⟨by omega, fun n0 => ?_, fun e0 => j_q_no h (q6 ge ab nb e0)⟩
  have qz := q0 ge ab nb n0
  clear q9 q2 q4 q6 q0
  intro M5 e5'
  have o5 : m_own M5 = [] := by
    unfold m_own
    rw [e5', e_up_eq]; rfl
  have k5 : m_ook M5 := by unfold m_ook; rw [e5', e_up_eq]; omega
  have f5 : m_fr M M5 := ⟨fun b b1 _ _ _ => by rw [e5', e_up_row b1], fun k _ _ k3 => by rw [e5', e_up_ne (fun z => k3 z.2)]⟩
  refine m_gets (B := 1) (C := 1) k5 (by rw [e5', e_up_eq]; omega) (by omega) (fun q hq => by rw [o5] at hq; cases hq) (by omega) (by omega) (by decide) (by show Int.gcd 1 1 = 1; decide) (fun M6 u1 u2 u3 => ?_)
  rw [o5, o_give_nil] at u1
  have f6 := m_fr_trans f5 u3
  obtain ⟨v1, v2⟩ := m_fr_n hn f6
  have n87 : M6 4456 87 = 1 := by
    have := m_own_len u2
    rw [u1] at this
    exact this.symm
  refine m_keeps v1 l80 u2 (by omega) (fun M7 w1 w2 w3 => ?_)
  rw [u1, v2] at w2
  have kp7 : j_keep M M7 := j_keep_trans (m_fr_keep f6) ⟨fun b hb => w3 b (by omega) (by omega) (by omega) (by omega), fun k _ => by rw [w3 4456 (by omega) (by omega) (by omega) (by omega)]⟩
  have RA : R_S V (w_ows S l [((p : Int), 1, 1)]) (n_of M7) a := by rw [w2]; exact R_ows hR hz hl
  refine ⟨by omega, by omega, fun M8 e8 => ⟨by omega, ?_⟩⟩
  rw [kp7.1 4464 (by omega), hnu] at e8
  obtain ⟨x1, x2⟩ := N_put6 (M := M7) (t := l) (v := (V d).1 9) w1 (by omega)
  rw [← e8] at x1 x2
  have kp8 : j_keep M M8 := j_keep_trans kp7 (j_keep_up e8 (by omega))
  have RB : R_S V (w_lpt (w_ows S l [((p : Int), 1, 1)]) l 2 ((V d).1 9)) (n_of M8) a := by rw [x2]; exact R_price RA hz hl
  have made8 : ∀ t, ((n_of M8).2.1 t).1 1 = ((n_of M).2.1 t).1 1 := fun t => by
    rw [x2, n_put_1 (by omega), w2]; rfl
  have ll8 : ∀ j, w_l (w_lpt (w_ows S l [((p : Int), 1, 1)]) l 2 ((V d).1 9)) j = if j = l then (s_fu (w_l S l).1 2 ((V d).1 9), (w_l S l).2.1, (w_l S l).2.2.1, [((p : Int), 1, 1)]) else w_l S j := fun j => by
    show s_fu (s_fu S.2.1 l _) l _ j = _
    by_cases cj : j = l
    · rw [cj, s_fu_eq, if_pos rfl]
      show (s_fu (s_fu S.2.1 l _ l).1 2 _, (s_fu S.2.1 l _ l).2) = _
      rw [s_fu_eq]; rfl
    · rw [s_fu_ne cj, s_fu_ne cj, if_neg cj]; rfl
  have gg8 : w_rg (w_lpt (w_ows S l [((p : Int), 1, 1)]) l 2 ((V d).1 9)) := w_rg_lpt (w_rg_ows hg (fun q hq => by
    rcases List.mem_cons.mp hq with rfl | hq
    · exact ⟨by show 0 ≤ (p : Int); omega, hp⟩
    · cases hq) (fun q hq => by
    rcases List.mem_cons.mp hq with rfl | hq
    · exact ⟨by show (0 : Int) ≤ 1; decide, by show (1 : Int) ≤ 1; decide, by show (0 : Int) < 1; decide, by show (1 : Int) ≤ 1000000; decide⟩
    · cases hq))
  have h8 : R_all M8 V (w_lpt (w_ows S l [((p : Int), 1, 1)]) l 2 ((V d).1 9)) a := ⟨x1, j_keep_cm hc kp8, RB, hz, gg8, hd⟩
  have C8 : I_C (w_lpt (w_ows S l [((p : Int), 1, 1)]) l 2 ((V d).1 9)) := by
    refine ⟨fun k hk => ?_, fun k hk gk => ?_⟩
    · obtain ⟨y1, y2, y3⟩ := hC.1 k hk
      refine ⟨y1, fun z hz' => ?_, y3⟩
      obtain ⟨z1, z2, z3⟩ := y2 z hz'
      refine ⟨z1, z2, ?_⟩
      rw [ll8]
      by_cases cz : z.toNat = l
      · rw [if_pos cz, ← cz]; exact z3
      · rw [if_neg cz]; exact z3
    · rw [ll8] at gk ⊢
      by_cases ck : k = l
      · subst ck
        rw [if_pos rfl]
        exact hC.2 k hk g0
      · rw [if_neg ck] at gk ⊢
        exact hC.2 k hk gk
  have am8 : w_am (w_lpt (w_ows S l [((p : Int), 1, 1)]) l 2 ((V d).1 9)) := ham
  have gl8 : (w_l (w_lpt (w_ows S l [((p : Int), 1, 1)]) l 2 ((V d).1 9)) l).1 1 = 0 := by
    rw [ll8, if_pos rfl]
    show s_fu (w_l S l).1 2 ((V d).1 9) 1 = 0
    rw [s_fu_ne (by omega)]; exact g0
  have rl8 : (w_l (w_lpt (w_ows S l [((p : Int), 1, 1)]) l 2 ((V d).1 9)) l).2.2.1 = (w_l S l).2.2.1 := by rw [ll8, if_pos rfl]
  have len8 : (w_l S l).2.2.1.length ≤ 8 := by
    have := j_row_len (c := 4500) jk
    rw [ej] at this
    have := jk.2
    omega
  have d8 : M8 4456 86 = S.2.2.2 := by rw [kp8.2 86 (by omega)]; exact R_day hR
  obtain ⟨-, m8, -⟩ := n_c (M := M8) (t := 80 * 2 + c) (by omega)
  refine m_idt (t := 80 * 2 + c) (by omega) (by omega) (by omega) ?_
  rw [show (((80 * 2 + c : Nat)) : Int).toNat = 80 * 2 + c by omega, kp8.1 4464 (by omega), hnu, m8, made8]
  refine ⟨by omega, ?_⟩
  unfold w_auction at qz
  generalize hS8 : w_lpt (w_ows S l [((p : Int), 1, 1)]) l 2 ((V d).1 9) = S8 at *
  have s8z : S8.1 = S.1 := by rw [← hS8]; rfl
  have s8d : S8.2.2.2 = S.2.2.2 := by rw [← hS8]; rfl
  have s8t : ∀ s i, w_t S8 s i = w_t S s i := fun s i => by rw [← hS8]; rfl
  obtain ⟨as1, as2, as3⟩ := w_auc_s1 (l := l) (f := f.toNat) 8 S8 S8 ((V d).1 9) (fun _ => rfl)
  refine ⟨9, m_auc (V := V) (a := a) (M0 := M8) (R := w_auc l f.toNat 8 S8 ((V d).1 9)) (f := f) ge (fun M9 r1 r2 r3 r4 r5 => ?_) 8 S8 M8 ((V d).1 9) h8 (by rw [s8z]; exact hl) C8 am8 gl8 hnb (by rw [rl8]; omega) rfl j_keep_refl (fun _ => rfl)⟩
  generalize hRR : w_auc l f.toNat 8 S8 ((V d).1 9) = R at *
  have rz : R.1 = S.1 := by rw [as2, s8z]
  have rd : R.2.2.2 = S.2.2.2 := by rw [as3, s8d]
  obtain ⟨kn, kc, kR, kz, kg, kd⟩ := id r1
  have d9 : M9 4456 86 = S.2.2.2 := by rw [R_day kR, rd]
  have k9 : j_keep M M9 := j_keep_trans kp8 r4
  have z4 := kz 4 (by omega)
  have z5 := kz 5 (by omega)
  have z6 := kz 6 (by omega)
  have w4 : w_mx 4 = 40 := rfl
  have w5 : w_mx 5 = 40 := rfl
  have w6 : w_mx 6 = 30 := rfl
  have s4 := R_many kR (show 4 < 7 by omega)
  have s5 := R_many kR (show 5 < 7 by omega)
  have s6 := R_many kR (show 6 < 7 by omega)
  generalize hmm : ((n_of M).2.1 (80 * 2 + c)).1 1 = mm at *
  refine m_clr4 (N0 := n_of M9) (day := S.2.2.2) (q := fun _ => false) kn d9 (n_pm_0 (fun _ => rfl)).symm (by rw [s4]; omega) (fun _ _ _ => rfl) (fun Ma a1 a2 a3 => ?_)
  have sa5 : Ma 4483 5 = M9 4483 5 := n_of_size (by omega) (by rw [a2]; rfl)
  have sa6 : Ma 4483 6 = M9 4483 6 := n_of_size (by omega) (by rw [a2]; rfl)
  refine m_clr6 (N0 := n_of M9) (day := S.2.2.2) a1 (by rw [a3.2 86 (by omega)]; exact d9) a2 (by rw [sa6, s6]; omega) (fun t t1 t2 => ?_) (fun Mb b1 b2 b3 => ?_)
  · unfold p_and p_upto
    rw [Bool.false_or]
    exact decide_eq_false (by rw [s4]; omega)
  have sb5 : Mb 4483 5 = M9 4483 5 := n_of_size (by omega) (by rw [b2]; rfl)
  refine m_clr5 (N0 := n_of M9) b1 b2 (by rw [sb5, s5]; omega) (fun t t1 t2 => ?_) (fun Mc g1 g2 g3 => ?_)
  · unfold p_and p_upto
    rw [Bool.false_or, Bool.or_eq_false_iff]
    exact ⟨decide_eq_false (by rw [s4]; omega), decide_eq_false (by rw [sa6, s6]; omega)⟩
  refine qz Mc g1 ?_ (j_keep_trans k9 (j_keep_trans a3 (j_keep_trans b3 g3)))
  rw [sb5, sa6, s4, s5, s6] at g2
  have nt : ∀ s i : Nat, s < 7 → i < 80 → (n_of Mc).2.1 (80 * s + i) = if (s = 4 ∨ s = 5 ∨ s = 6) ∧ (i : Int) < R.1 s then g_auc l mm S.2.2.2 (80 * s + i) ((n_of M9).2.1 (80 * s + i)) else (n_of M9).2.1 (80 * s + i) := fun s i hs hi => by
    rw [g2, n_pm_at]
    have : p_and (p_and (p_and (fun _ => false) (p_upto 4 (R.1 4))) (p_upto 6 (R.1 6))) (p_upto 5 (R.1 5)) (80 * s + i) = decide ((s = 4 ∨ s = 5 ∨ s = 6) ∧ (i : Int) < R.1 s) := by
      unfold p_and p_upto
      rw [Bool.false_or]
      by_cases cc : (s = 4 ∨ s = 5 ∨ s = 6) ∧ (i : Int) < R.1 s
      · rw [decide_eq_true cc]
        rcases cc with ⟨rfl | rfl | rfl, cc⟩
        · rw [decide_eq_true (show 80 * 4 ≤ 80 * 4 + i ∧ ((80 * 4 + i : Nat) : Int) < 80 * ((4 : Nat) : Int) + R.1 4 by omega)]; rfl
        · rw [decide_eq_true (show 80 * 5 ≤ 80 * 5 + i ∧ ((80 * 5 + i : Nat) : Int) < 80 * ((5 : Nat) : Int) + R.1 5 by omega), Bool.or_true]
        · rw [decide_eq_true (show 80 * 6 ≤ 80 * 6 + i ∧ ((80 * 6 + i : Nat) : Int) < 80 * ((6 : Nat) : Int) + R.1 6 by omega), Bool.or_true, Bool.true_or]
      · rw [decide_eq_false cc, Bool.or_eq_false_iff, Bool.or_eq_false_iff]
        refine ⟨⟨decide_eq_false (fun z => cc ?_), decide_eq_false (fun z => cc ?_)⟩, decide_eq_false (fun z => cc ?_)⟩
        · have : s = 4 := by omega
          subst this; exact ⟨Or.inl rfl, by omega⟩
        · have : s = 6 := by omega
          subst this; exact ⟨Or.inr (Or.inr rfl), by omega⟩
        · have : s = 5 := by omega
          subst this; exact ⟨Or.inr (Or.inl rfl), by omega⟩
    rw [this]
    by_cases cc : (s = 4 ∨ s = 5 ∨ s = 6) ∧ (i : Int) < R.1 s
    · rw [decide_eq_true cc, if_pos rfl, if_pos cc]
    · rw [decide_eq_false cc, if_neg (by decide), if_neg cc]
  have f1 : ∀ s y, (t_clr l ((w_t S 2 c).1 1) S.2.2.2 s y).1 1 = y.1 1 := fun s y => by
    unfold t_clr; split
    · exact t_leave_1 (by omega)
    · rfl
  have g11 : ∀ t y, (g_auc l mm S.2.2.2 t y).1 1 = y.1 1 := fun t y => by
    unfold g_auc; (repeat' split) <;> first | exact t_leave_1 (by omega) | rfl | exact s_fu_ne (by omega)
  have made9 : ((n_of M9).2.1 (80 * 2 + c)).1 1 = mm := by rw [r5, made8]; exact hmm
  have madeR : (w_t R 2 c).1 1 = (w_t S 2 c).1 1 := by
    have := as1 (w_F 2 + c)
    rw [show (w_t R 2 c).1 1 = (R.2.2.1 (w_F 2 + c)).1 1 from rfl, this]
    show (w_t S8 2 c).1 1 = _
    rw [s8t]
  have hciR : (c : Int) < R.1 2 := by rw [rz]; exact hci
  -- CAUTIONS have one LOT still
  have one5 : ∀ i : Nat, (i : Int) < R.1 5 → t_thr (w_t R 5 i) R.2.2.2 = true → (w_t R 5 i).2.1.length = 1 := fun i hi ht => by
    have e : w_t R 5 i = w_t S8 5 i := by
      rw [← hRR]
      refine w_auc_t 8 S8 ((V d).1 9) (fun x hx => ?_) _ (Or.inr (by have f5 : w_F 5 = 160 := rfl; omega))
      rw [rl8] at hx
      have := (hg.1 l hl).2.1 x hx
      change 0 ≤ x ∧ x < S.1 2 at this
      have := hz 2 (by omega)
      have w2 : w_mx 2 = 40 := rfl
      omega
    rw [e, s8t] at ht ⊢
    refine h5 i (by rw [← rz]; exact hi) ?_
    show t_thr (w_t S 5 i) S.2.2.2 = true
    rw [← rd]; exact ht
  rw [← rd]
  refine R_things kR kz rfl rfl rfl (by rw [g2]; rfl) (fun i hi => ?_) (by rw [g2]; rfl) (fun s i s1 s7 hi => ⟨?_, ?_⟩) (fun i hi => ?_) (fun i hi => ?_) (fun s i s2 s6' hi => ?_) (fun k hk => ?_)
  · have := nt 0 i (by omega) (R_mx kz (by omega) hi)
    rw [if_neg (by omega), show 80 * 0 + i = i by omega] at this
    exact this
  · rw [w_map_at kz ⟨s1, by omega⟩ hi]
    split
    · rw [rd]; exact f1 s _
    · rfl
  · rw [nt s i s7 (R_mx kz s7 hi)]
    split
    · exact g11 _ _
    · rfl
  · rw [w_map_at kz (by omega) hi, if_neg (by omega)]
  · rw [w_map_at kz (by omega) hi, if_neg (by omega), nt 1 i (by omega) (R_mx kz (by omega) hi), if_neg (by omega)]
    exact kR.2.2.2.1 i hi
  · have rt := kR.2.2.2.2.1 s i s2 s6' hi
    rw [w_map_at kz (by omega) hi, nt s i (by omega) (R_mx kz (by omega) hi)]
    by_cases c4 : 4 ≤ s
    · rw [if_pos ⟨c4, s6'⟩, if_pos ⟨by omega, hi⟩]
      by_cases tt : t_thr (w_t R s i) R.2.2.2 = true
      · have rb := rt.2.2 tt
        have er : ((n_of M9).2.1 (80 * s + i)).2.1 = (w_t R s i).2.1 := (rb.2.2.2.1 (by omega)).1
        have ty : t_thr ((n_of M9).2.1 (80 * s + i)) R.2.2.2 = true := by rw [rt.2.1]; exact tt
        unfold t_clr g_auc
        by_cases s44 : s = 4
        · subst s44
          have ord := kR.2.2.2.2.2.2.2.2.1 c i hciR hi
          rw [made9, madeR] at ord
          rw [if_pos (show 80 * 4 + i < 400 by have := R_mx kz (show 4 < 7 by omega) hi; have := R_lt kz (show 4 < 8 by omega) hi; omega), er, ← rd]
          by_cases cl : ¬ (w_t R 4 i).1 1 < (w_t S 2 c).1 1 ∧ (l : Int) ∈ (w_t R 4 i).2.1
          · rw [if_pos ⟨fun z => cl.1 z.2, tt, cl.2⟩, if_pos ⟨ty, ord.mpr cl.1, cl.2⟩]
            exact t_leave_R rt (by omega) (by omega) tt
          · rw [if_neg (fun z => cl ⟨fun y => z.1 ⟨rfl, y⟩, z.2.2⟩), if_neg (fun z => cl ⟨ord.mp z.2.1, z.2.2⟩)]
            exact rt
        · have lim := R_lt kz (show s < 8 by omega) hi
          by_cases s55 : s = 5
          · subst s55
            have o5 := one5 i hi tt
            rw [if_neg (show ¬ 80 * 5 + i < 400 by omega), if_pos (show 80 * 5 + i < 480 by omega), er]
            by_cases cl : (l : Int) ∈ (w_t R 5 i).2.1
            · rw [if_pos ⟨fun z => by omega, tt, cl⟩, if_pos cl]
              have e1 : r_del (w_t R 5 i).2.1 l = [] := by
                obtain ⟨y, hy⟩ := List.length_eq_one_iff.mp o5
                rw [hy] at cl ⊢
                have : (l : Int) = y := by simpa using cl
                rw [this]; exact r_del_hd
              refine t_gone_R rt (t_leave_1 (by omega)) rfl (t_thr_gone ?_) (t_thr_gone (s_fu_eq : s_fu ((n_of M9).2.1 (80 * 5 + i)).1 2 1 2 = 1))
              unfold t_leave
              rw [e1]
              exact (s_fu_eq : s_fu (w_t R 5 i).1 2 1 2 = 1)
            · rw [if_neg (fun z => cl z.2.2), if_neg cl]
              exact rt
          · have s66 : s = 6 := by omega
            subst s66
            rw [if_neg (show ¬ 80 * 6 + i < 400 by omega), if_neg (show ¬ 80 * 6 + i < 480 by omega), er, ← rd]
            by_cases cl : (l : Int) ∈ (w_t R 6 i).2.1
            · rw [if_pos ⟨fun z => by omega, tt, cl⟩, if_pos ⟨ty, cl⟩]
              exact t_leave_R rt (by omega) (by omega) tt
            · rw [if_neg (fun z => cl z.2.2), if_neg (fun z => cl z.2)]
              exact rt
      · have tf := t_off_thr tt
        have tfy : t_thr ((n_of M9).2.1 (80 * s + i)) R.2.2.2 = false := by rw [rt.2.1]; exact tf
        have e1 : t_clr l ((w_t S 2 c).1 1) S.2.2.2 s (w_t R s i) = w_t R s i := by
          unfold t_clr
          rw [if_neg (fun z => by rw [← rd, tf] at z; cases z.2.1)]
        rw [show t_clr l ((w_t S 2 c).1 1) R.2.2.2 s (w_t R s i) = w_t R s i by rw [rd]; exact e1]
        refine t_gone_R rt rfl ?_ tf ?_
        · unfold g_auc
          (repeat' split) <;> first | exact t_leave_1 (by omega) | rfl | exact s_fu_ne (by omega)
        · unfold g_auc
          rw [← rd]
          split
          · rw [if_neg (fun z => by rw [tfy] at z; cases z.1)]; exact tfy
          · split
            · split
              · exact t_thr_gone (s_fu_eq : s_fu ((n_of M9).2.1 (80 * s + i)).1 2 1 2 = 1)
              · exact tfy
            · rw [if_neg (fun z => by rw [tfy] at z; cases z.1)]; exact tfy
    · rw [if_neg (by omega), if_neg (by omega)]
      exact rt
  · rw [w_map_at kz (by omega) hk, if_neg (by omega)]
