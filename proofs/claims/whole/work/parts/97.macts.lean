/-! THE MODEL: the simpler acts -/
/-- what no act changes -/
def j_keep (M M' : e_M) : Prop := (∀ b, (b < 4456 ∨ (4457 ≤ b ∧ b ≤ 4479) ∨ b = 4482 ∨ 4520 ≤ b) → M' b = M b) ∧ ∀ k, (k < 38 ∨ (49 ≤ k ∧ k ≠ 73 ∧ k ≠ 85 ∧ k ≠ 87)) → M' 4456 k = M 4456 k
theorem j_keep_refl {M : e_M} : j_keep M M := ⟨fun _ _ => rfl, fun _ _ => rfl⟩
theorem j_keep_trans {M N L : e_M} (h1 : j_keep M N) (h2 : j_keep N L) : j_keep M L := ⟨fun b hb => by rw [h2.1 b hb, h1.1 b hb], fun k hk => by rw [h2.2 k hk, h1.2 k hk]⟩
theorem j_keep_cell {M : e_M} {c t : Nat} {v : Int} (h : (4480 ≤ c ∧ c ≠ 4482 ∧ c < 4520)) : j_keep M (e_up M c t v) := ⟨fun b hb => e_up_row (by omega), fun k hk => by rw [e_up_row (by omega)]⟩
theorem j_keep_of {M M' : e_M} (h : ∀ b, (b < 4480 ∨ b = 4482 ∨ 4520 ≤ b) → M' b = M b) : j_keep M M' := ⟨fun b hb => h b (by omega), fun k hk => by rw [h 4456 (by omega)]⟩
theorem j_keep_cm {M M' : e_M} (h : cm_ok M) (f : j_keep M M') : cm_ok M' := ⟨fun k hk => by rw [f.1 4457 (by omega)]; exact h.1 k hk, fun l m hl hm => by rw [f.1 4458 (by omega)]; exact h.2 l m hl hm⟩
theorem m_fr_keep {M M' : e_M} (f : m_fr M M') : j_keep M M' := ⟨fun b hb => f.1 b (by omega) (by omega) (by omega) (by omega), fun k hk => f.2 k (by omega) (by omega) (by omega)⟩
theorem m_fr_n {M M' : e_M} (h : nn_ok M) (f : m_fr M M') : nn_ok M' ∧ n_of M' = n_of M := n_same h (fun b hb => f.1 b (by omega) (by omega) (by omega) (by omega)) (fun j _ => ⟨by rw [f.1 4480 (by omega) (by omega) (by omega) (by omega)], by rw [f.1 4481 (by omega) (by omega) (by omega) (by omega)]⟩) ⟨f.2 85 (by omega) (by omega) (by omega), f.2 86 (by omega) (by omega) (by omega), f.2 73 (by omega) (by omega) (by omega)⟩
def j_q (M : e_M) (V : Nat → v_D) (a : Int) (Q : Int → e_M → Prop) (X : Int × w_S) : Prop := ∀ M', nn_ok M' → R_S V X.2 (n_of M') a → j_keep M M' → Q X.1 M'
theorem j_qx {M : e_M} {V : Nat → v_D} {a : Int} {Q : Int → e_M → Prop} {X : Int × w_S} {c : Int} {S' : w_S} (e : X = (c, S')) (hq : j_q M V a Q X) : j_q M V a Q (c, S') := by rw [e] at hq; exact hq
theorem j_q_no {M : e_M} {V : Nat → v_D} {S : w_S} {a c : Int} {Q : Int → e_M → Prop} (h : R_all M V S a) (hq : j_q M V a Q (c, S)) : Q c M := hq M h.1 h.2.2.1 j_keep_refl
theorem m_idt {M : e_M} {s : Int} {i : Int} {t : Nat} {Q : Int → Prop} (hs : 0 ≤ s ∧ s ≤ 7) (hi : 0 ≤ i ∧ i ≤ 80) (ht : (t : Int) = 80 * s + i) (hq : Q (t : Int)) : WX12_id s i M Q := m_id hs hi (by rw [← ht]; exact hq)
theorem R_nat {V : Nat → v_D} {S : w_S} {N : n_S} {a : Int} {p : Nat} (hR : R_S V S N a) (hp : (p : Int) < S.1 1) (h0 : (w_t S 1 p).1 7 = 0) : (N.2.1 (80 * 1 + p)).1 7 = 0 := by
  obtain ⟨-, ⟨k7, k01, k0⟩, -⟩ := hR.2.2.2.1 p hp
  rw [k7, if_neg (fun c => by have := k0 c; omega)]
  exact h0
theorem m_guard {M : e_M} {V : Nat → v_D} {S : w_S} {a : Int} {r : Nat → Int} {Q : Int → e_M → Prop} (h : R_all M V S a) (i0 : M 4520 0 = r 0) (i1 : M 4520 1 = r 1) (h0 : 0 ≤ r 0 ∧ r 0 < S.1 1) (h1 : 0 ≤ r 1 ∧ r 1 < S.1 1) (n0 : (w_t S 1 (r 0).toNat).1 7 = 0) (n1 : (w_t S 1 (r 1).toNat).1 7 = 0) (hq : j_q M V a Q (X_guard S r)) : WX12_guard M Q := by
  obtain ⟨hn, hc, hR, hz, hg, hd⟩ := id h
  obtain ⟨p, e0⟩ : ∃ p : Nat, r 0 = p := ⟨(r 0).toNat, by omega⟩
  obtain ⟨q, e1⟩ : ∃ q : Nat, r 1 = q := ⟨(r 1).toNat, by omega⟩
  have hp : (p : Int) < S.1 1 := by omega
  have hp1 : (q : Int) < S.1 1 := by omega
  have p80 := R_mx hz (show 1 < 7 by omega) hp
  have q80 := R_mx hz (show 1 < 7 by omega) hp1
  rw [e0, show ((p : Nat) : Int).toNat = p by omega] at n0
  rw [e1, show ((q : Nat) : Int).toNat = q by omega] at n1
  obtain ⟨-, -, -, -, -, -, -, c7⟩ := n_c (M := M) (t := 80 * 1 + p) (by omega)
  obtain ⟨-, -, -, -, -, -, -, c7'⟩ := n_c (M := M) (t := 80 * 1 + q) (by omega)
  have q9 : w_age S p = true → j_q M V a Q (9, S) := fun g => j_qx (c_if_pos (by rw [e0]; exact g)) hq
  have q2 : w_age S p = false → w_age S q = false → j_q M V a Q (2, S) := fun g1 g2 => j_qx ((c_if_neg (b_ft (by rw [e0]; exact g1))).trans (c_if_pos (by rw [e1]; exact g2))) hq
  have q0 : w_age S p = false → w_age S q = true → j_q M V a Q (0, w_put S (w_F 1 + p) 5 q) := fun g1 g2 => j_qx ((c_if_neg (b_ft (by rw [e0]; exact g1))).trans ((c_if_neg (b_tf (by rw [e1]; exact g2))).trans (by rw [e0, e1]; rfl))) hq
  unfold WX12_guard VX12_guard
  rw [show (0 : Int).toNat = 0 from rfl, show (1 : Int).toNat = 1 from rfl, i0, i1, e0, e1, R_day hR]
  refine ⟨by omega, by omega, m_idt (t := 80 * 1 + p) (by omega) (by omega) (by omega) ?_⟩
  rw [show (((80 * 1 + p : Nat)) : Int).toNat = 80 * 1 + p by omega, c7, R_nat hR hp n0]
  refine ⟨by omega, fun z => absurd rfl z, fun _ => m_idt (t := 80 * 1 + q) (by omega) (by omega) (by omega) ?_⟩
  rw [show (((80 * 1 + q : Nat)) : Int).toNat = 80 * 1 + q by omega, c7', R_nat hR hp1 n1]
  refine ⟨by omega, fun _ => m_isAge hc hR hz hd hp (fun ag => ⟨fun z => by omega, fun _ => j_q_no h (q9 ag)⟩) (fun ag => ⟨fun _ => m_isAge hc hR hz hd hp1 (fun ag2 => ⟨fun _ => m_idt (t := 80 * 1 + p) (by omega) (by omega) (by omega) ⟨by omega, fun M6 e6 => ?_⟩, fun z => by omega⟩) (fun ag2 => ⟨fun z => absurd rfl z, fun _ => j_q_no h (q2 ag ag2)⟩), fun z => absurd rfl z⟩), fun z => absurd rfl z⟩
  rw [show (((80 * 1 + p : Nat)) : Int).toNat = 80 * 1 + p by omega] at e6
  obtain ⟨u1, u2⟩ := N_put5 (M := M) (t := 80 * 1 + p) (v := (q : Int)) hn (by omega)
  rw [e6]
  refine q0 ag ag2 _ u1 ?_ (j_keep_cell (by omega))
  rw [u2]
  exact R_guard hR hz hp
/-- one who is told by a thing -/
theorem R_who {V : Nat → v_D} {S : w_S} {N : n_S} {a : Int} {s i : Nat} (hR : R_S V S N a) (hs : 2 ≤ s ∧ s ≤ 6 ∧ s ≠ 3) (hi : (i : Int) < S.1 s) (ht : w_thr S s i = true) : (N.2.1 (80 * s + i)).1 5 = (w_t S s i).1 5 := by
  have hb := (hR.2.2.2.2.1 s i hs.1 hs.2.1 hi).2.2 (by
    unfold w_thr at ht
    rw [if_neg (by omega)] at ht
    exact ht)
  exact hb.1 hs.2.2
theorem m_assign {M : e_M} {V : Nat → v_D} {S : w_S} {a : Int} {r : Nat → Int} {Q : Int → e_M → Prop} (h : R_all M V S a) (i0 : M 4520 0 = r 0) (i1 : M 4520 1 = r 1) (h0 : 0 ≤ r 0 ∧ r 0 < S.1 2) (t0 : w_thr S 2 (r 0).toNat = true) (hq : j_q M V a Q (X_assign S r)) : WX12_assign M Q := by
  obtain ⟨hn, hc, hR, hz, hg, hd⟩ := id h
  obtain ⟨c, e0⟩ : ∃ c : Nat, r 0 = c := ⟨(r 0).toNat, by omega⟩
  have hci : (c : Int) < S.1 2 := by omega
  have c80 := R_mx hz (show 2 < 7 by omega) hci
  rw [e0, show ((c : Nat) : Int).toNat = c by omega] at t0
  obtain ⟨-, -, -, -, -, c5, -⟩ := n_c (M := M) (t := 80 * 2 + c) (by omega)
  have ew := R_who (s := 2) hR (by omega) hci t0
  have hrt := (hg.2 2 c (by omega) (by omega) hci).1
  have hwho : 0 ≤ (w_t S 2 c).1 5 ∧ (w_t S 2 c).1 5 < S.1 1 := ⟨hrt.2 (by omega) (by omega), hrt.1⟩
  have hww := (hg.2 1 ((w_t S 2 c).1 5).toNat (by omega) (by omega) (by show ((((w_t S 2 c).1 5).toNat : Nat) : Int) < S.1 1; omega)).1.1
  have q2 : w_abl S ((w_t S 2 c).1 5).toNat = false → j_q M V a Q (2, S) := fun g => j_qx (c_if_pos (by rw [e0]; exact g)) hq
  have q9 : w_abl S ((w_t S 2 c).1 5).toNat = true → (w_t S 2 c).1 5 = r 1 → j_q M V a Q (9, S) := fun g1 g2 => j_qx ((c_if_neg (b_tf (by rw [e0]; exact g1))).trans (c_if_pos (by rw [e0]; exact g2))) hq
  have q0 : w_abl S ((w_t S 2 c).1 5).toNat = true → (w_t S 2 c).1 5 ≠ r 1 → j_q M V a Q (0, w_put S (w_F 2 + c) 5 (r 1)) := fun g1 g2 => j_qx ((c_if_neg (b_tf (by rw [e0]; exact g1))).trans ((c_if_neg (by rw [e0]; exact g2)).trans (by rw [e0]; rfl))) hq
  unfold WX12_assign VX12_assign
  rw [show (0 : Int).toNat = 0 from rfl, show (1 : Int).toNat = 1 from rfl, i0, i1, e0, R_day hR]
  refine ⟨by omega, m_idt (t := 80 * 2 + c) (by omega) (by omega) (by omega) ?_⟩
  rw [show (((80 * 2 + c : Nat)) : Int).toNat = 80 * 2 + c by omega, c5, ew]
  refine ⟨by omega, ?_⟩
  have am := m_isAble (Q := fun r2 => (¬ r2 = 0 → (0 ≤ (((80 * 2 + c : Nat)) : Int) ∧ (((80 * 2 + c : Nat)) : Int) < 560) ∧ (0 ≤ (1 : Int) ∧ (1 : Int) < 10) ∧ (¬ (w_t S 2 c).1 5 = r 1 → (0 ≤ (1 : Int) ∧ (1 : Int) < 10) ∧ (0 ≤ (((80 * 2 + c : Nat)) : Int) ∧ (((80 * 2 + c : Nat)) : Int) < 560) ∧ ∀ M3 : e_M, M3 = e_up M 4489 (80 * 2 + c) (r 1) → Q 0 M3) ∧ ((w_t S 2 c).1 5 = r 1 → Q 9 M)) ∧ (r2 = 0 → Q 2 M)) hc hR hz hd (show ((((w_t S 2 c).1 5).toNat : Nat) : Int) < S.1 1 by omega) hww (fun ab => ⟨fun _ => ⟨by omega, by omega, fun ne => ⟨by omega, by omega, fun M3 e3 => ?_⟩, fun e => j_q_no h (q9 ab e)⟩, fun z => by omega⟩) (fun ab => ⟨fun z => absurd rfl z, fun _ => j_q_no h (q2 ab)⟩)
  · rw [show ((((w_t S 2 c).1 5).toNat : Nat) : Int) = (w_t S 2 c).1 5 by omega] at am
    exact am
  · obtain ⟨u1, u2⟩ := N_put5 (M := M) (t := 80 * 2 + c) (v := r 1) hn (by omega)
    rw [e3]
    refine q0 ab ne _ u1 ?_ (j_keep_cell (by omega))
    rw [u2]
    exact R_tput hR hz (by omega) hci (Or.inl ⟨rfl, by omega⟩)
theorem m_ended {M : e_M} {V : Nat → v_D} {S : w_S} {a : Int} {ss r : Nat → Int} {Q : Int → e_M → Prop} (h : R_all M V S a) (hs : 4 ≤ ss 0 ∧ ss 0 ≤ 6) (h0 : 0 ≤ r 0 ∧ r 0 < S.1 (ss 0).toNat) (i0 : M 4520 0 = 80 * ss 0 + r 0) (t0 : w_thr S (ss 0).toNat (r 0).toNat = true) (hq : j_q M V a Q (X_end S ss r)) : WX12_ended M Q := by
  obtain ⟨hn, hc, hR, hz, hg, hd⟩ := id h
  obtain ⟨c, e0⟩ : ∃ c : Nat, r 0 = c := ⟨(r 0).toNat, by omega⟩
  obtain ⟨s, es⟩ : ∃ s : Nat, ss 0 = s := ⟨(ss 0).toNat, by omega⟩
  rw [es, show ((s : Nat) : Int).toNat = s by omega] at h0 t0
  have hci : (c : Int) < S.1 s := by omega
  have c80 := R_mx hz (show s < 7 by omega) hci
  rw [e0, show ((c : Nat) : Int).toNat = c by omega] at t0
  obtain ⟨-, -, -, -, -, c5, -⟩ := n_c (M := M) (t := 80 * s + c) (by omega)
  have ew := R_who (s := s) hR (by omega) hci t0
  have hrt := (hg.2 s c (by omega) (by omega) hci).1
  have hwho : 0 ≤ (w_t S s c).1 5 ∧ (w_t S s c).1 5 < S.1 1 := ⟨hrt.2 (by omega) (by omega), hrt.1⟩
  have hww := (hg.2 1 ((w_t S s c).1 5).toNat (by omega) (by omega) (by show ((((w_t S s c).1 5).toNat : Nat) : Int) < S.1 1; omega)).1.1
  have q2 : w_abl S ((w_t S s c).1 5).toNat = false → j_q M V a Q (2, S) := fun g => j_qx (c_if_pos (by rw [e0, es]; exact g)) hq
  have q0 : w_abl S ((w_t S s c).1 5).toNat = true → j_q M V a Q (0, w_put S (w_F s + c) 2 1) := fun g1 => j_qx ((c_if_neg (b_tf (by rw [e0, es]; exact g1))).trans (by rw [e0, es]; rfl)) hq
  unfold WX12_ended VX12_ended
  rw [show (0 : Int).toNat = 0 from rfl, i0, e0, es, R_day hR, show (80 * (s : Int) + (c : Int)).toNat = 80 * s + c by omega, c5, ew]
  refine ⟨by omega, by omega, ?_⟩
  have am := m_isAble (Q := fun r1 => (¬ r1 = 0 → ((0 ≤ 80 * (s : Int) + (c : Int) ∧ 80 * (s : Int) + (c : Int) < 560) ∧ ((1 : Int) = 0 ∨ (1 : Int) = 1)) ∧ ∀ M2 : e_M, M2 = e_up M 4485 (80 * s + c) 1 → Q 0 M2) ∧ (r1 = 0 → Q 2 M)) hc hR hz hd (show ((((w_t S s c).1 5).toNat : Nat) : Int) < S.1 1 by omega) hww (fun ab => ⟨fun _ => ⟨⟨by omega, Or.inr rfl⟩, fun M3 e3 => ?_⟩, fun z => by omega⟩) (fun ab => ⟨fun z => absurd rfl z, fun _ => j_q_no h (q2 ab)⟩)
  · rw [show ((((w_t S s c).1 5).toNat : Nat) : Int) = (w_t S s c).1 5 by omega] at am
    exact am
  · obtain ⟨u1, u2⟩ := N_put2 (M := M) (t := 80 * s + c) (v := 1) hn (by omega)
    rw [e3]
    refine q0 ab _ u1 ?_ (j_keep_cell (by omega))
    rw [u2]
    exact R_tend hR hz (by omega) hci ⟨rfl, rfl, rfl⟩ ⟨rfl, rfl⟩ (t_thr_gone rfl) (t_thr_gone rfl)
theorem R_rows {V : Nat → v_D} {S : w_S} {N : n_S} {a : Int} {s i : Nat} (hR : R_S V S N a) (hs : 2 ≤ s ∧ s ≤ 6) (hi : (i : Int) < S.1 s) (ht : w_thr S s i = true) : R_b s (w_t S s i) (N.2.1 (80 * s + i)) :=
  (hR.2.2.2.2.1 s i hs.1 hs.2 hi).2.2 (by
    unfold w_thr at ht
    rw [if_neg (by omega)] at ht
    exact ht)
theorem m_waive {M : e_M} {V : Nat → v_D} {S : w_S} {a : Int} {r : Nat → Int} {Q : Int → e_M → Prop} (h : R_all M V S a) (i0 : M 4520 0 = r 0) (h0 : 0 ≤ r 0 ∧ r 0 < S.1 3) (t0 : w_thr S 3 (r 0).toNat = true) (hq : j_q M V a Q (X_waive S r)) : WX12_waive M Q := by
  obtain ⟨hn, hc, hR, hz, hg, hd⟩ := id h
  obtain ⟨c, e0⟩ : ∃ c : Nat, r 0 = c := ⟨(r 0).toNat, by omega⟩
  have hci : (c : Int) < S.1 3 := by omega
  have c80 := R_mx hz (show 3 < 7 by omega) hci
  rw [e0, show ((c : Nat) : Int).toNat = c by omega] at t0
  have rb := (R_rows (s := 3) hR (by omega) hci t0).2.2.1 rfl
  obtain ⟨-, r2⟩ := n_r (M := M) (t := 80 * 3 + c) (by omega)
  have jk := (hn.2.1 (80 * 3 + c) (by omega)).2
  have jl := j_row_len (c := 4495) jk
  rw [r2, rb.2.2] at jl
  obtain ⟨j0, j8⟩ := jk
  have hls := (hg.2 3 c (by omega) (by omega) hci).2.1
  have q2 : (∃ l ∈ (w_t S 3 c).2.1, ¬ w_oab S l.toNat) → j_q M V a Q (2, S) := fun g => j_qx (c_if_pos (by rw [e0]; exact g)) hq
  have q0 : ¬ (∃ l ∈ (w_t S 3 c).2.1, ¬ w_oab S l.toNat) → j_q M V a Q (0, w_put S (w_F 3 + c) 2 1) := fun g1 => j_qx ((c_if_neg (by rw [e0]; exact g1)).trans (by rw [e0]; rfl)) hq
  have hat : ∀ i : Nat, (i : Int) < M 4494 (80 * 3 + c) → (w_t S 3 c).2.1[i]? = some (M 4495 (8 * (80 * 3 + c) + i)) := fun i hi => by
    rw [← rb.2.2, ← r2]
    exact j_row_at hi
  unfold WX12_waive VX12_waive
  rw [show (0 : Int).toNat = 0 from rfl, i0, e0]
  refine ⟨by omega, m_idt (t := 80 * 3 + c) (by omega) (by omega) (by omega) ?_⟩
  show ∃ j, WX12_waive_13 Q j (((80 * 3 + c : Nat)) : Int) 0 M
  refine s_up (σ := e_M) (P := fun dd i N => WX12_waive_13 Q dd (((80 * 3 + c : Nat)) : Int) i N) (n := M 4494 (80 * 3 + c)) (i0 := 0) (s := M) (fun i N => N = M ∧ ∀ j : Nat, (j : Int) < i → ∀ l, (w_t S 3 c).2.1[j]? = some l → w_oab S l.toNat) j0 ⟨rfl, fun j hj => by omega⟩ ?_ ?_
  · intro d2 N ⟨e, hj⟩
    subst e
    unfold WX12_waive_13 VX12_waive_13
    rw [show (((80 * 3 + c : Nat)) : Int).toNat = 80 * 3 + c by omega]
    refine ⟨by omega, fun _ => ⟨⟨by omega, Or.inr rfl⟩, fun M1 e1 => ?_⟩, fun z => by omega⟩
    obtain ⟨u1, u2⟩ := N_put2 (M := N) (t := 80 * 3 + c) (v := 1) hn (by omega)
    rw [e1]
    refine q0 (fun ⟨l, l1, l2⟩ => ?_) _ u1 ?_ (j_keep_cell (by omega))
    · obtain ⟨j, j1, j2⟩ := List.getElem_of_mem l1
      exact l2 (hj j (by omega) l (by rw [List.getElem?_eq_getElem j1, j2]))
    · rw [u2]
      exact R_tend (s := 3) hR hz (by omega) hci ⟨rfl, rfl, rfl⟩ ⟨rfl, rfl⟩ (t_thr_gone rfl) (t_thr_gone rfl)
  · intro d2 i N k1 k2 ⟨e, hj⟩ ih
    subst e
    have hg' := hat i.toNat (by omega)
    have hl := hls _ (List.mem_of_getElem? hg')
    change 0 ≤ _ ∧ _ < S.1 0 at hl
    unfold WX12_waive_13 VX12_waive_13
    rw [show (((80 * 3 + c : Nat)) : Int).toNat = 80 * 3 + c by omega, s_w (x := 8 * (((80 * 3 + c : Nat)) : Int)) (by omega) (by omega), s_w (x := 8 * (((80 * 3 + c : Nat)) : Int) + i) (by omega) (by omega), show (8 * (((80 * 3 + c : Nat)) : Int) + i).toNat = 8 * (80 * 3 + c) + i.toNat by omega]
    rw [show N 4495 (8 * (80 * 3 + c) + i.toNat) = (((N 4495 (8 * (80 * 3 + c) + i.toNat)).toNat : Nat) : Int) by omega]
    refine ⟨by omega, fun z => by omega, fun _ => ⟨by omega, m_areAble h (by omega) (fun ab => ⟨fun _ => ?_, fun z => by omega⟩) (fun ab => ⟨fun z => absurd rfl z, fun _ => j_q_no h (q2 ⟨_, List.mem_of_getElem? hg', ab⟩)⟩)⟩⟩
    rw [s_w (by omega) (by omega)]
    refine ih N ⟨rfl, fun j hj2 l hl2 => ?_⟩
    by_cases cc : (j : Int) = i
    · rw [show j = i.toNat by omega, hg'] at hl2
      rw [← Option.some.inj hl2]; exact ab
    · exact hj j (by omega) l hl2
