/-! THE MODEL: the acts that make one thing -/
def m_mo (M : e_M) : Prop := ∀ s : Nat, s < 7 → M 4482 s = ((w_mx s : Nat) : Int)
theorem m_full {M : e_M} {s : Nat} {s' k : Int} {Q : Int → Prop} (e : s' = (s : Int)) (hm : m_mo M) (h : nn_ok M) (hs : s < 7) (hk : 0 ≤ k ∧ k ≤ 2) (q0 : M 4483 s + k ≤ w_mx s → Q 0) (q1 : w_mx s < M 4483 s + k → Q 1) : WX12_full s' k M Q := by
  subst e
  have b := h.1 s hs
  have hmx : w_mx s ≤ 80 := by unfold w_mx; (repeat' split) <;> omega
  have e2 := hm s hs
  unfold WX12_full VX12_full
  rw [show ((s : Nat) : Int).toNat = s by omega, s_w (by omega) (by omega), e2]
  exact ⟨by omega, by omega, q0, q1⟩
theorem j_keep_up {M N : e_M} {c t : Nat} {v : Int} (e : N = e_up M c t v) (h : 4480 ≤ c ∧ c ≠ 4482 ∧ c < 4520) : j_keep M N := by
  by_cases c56 : c = 4456
  · omega
  · rw [e]; exact j_keep_cell h
theorem R_all_le {M : e_M} {V : Nat → v_D} {S : w_S} {a b : Int} (h : R_all M V S a) (hab : a ≤ b) : R_all M V S b := ⟨h.1, h.2.1, R_S_le h.2.2.1 hab, h.2.2.2⟩
theorem R_turn {V : Nat → v_D} {S : w_S} {N : n_S} {a : Int} (hR : R_S V S N a) (hz : R_z S) : 0 ≤ N.2.2.2.2.2.1 ∧ N.2.2.2.2.2.1 ≤ 1000 := by
  obtain ⟨-, -, -, -, -, -, -, -, -, -, -, -, b4⟩ := hR
  have e0 : w_mx 0 = 80 := rfl
  have e1 : w_mx 1 = 40 := rfl
  have e2 : w_mx 2 = 40 := rfl
  have e3 : w_mx 3 = 40 := rfl
  have e4 : w_mx 4 = 40 := rfl
  have e5 : w_mx 5 = 40 := rfl
  have e6 : w_mx 6 = 30 := rfl
  have e7 : w_mx 7 = 60 := rfl
  have z0 := hz 0 (by omega)
  have z1 := hz 1 (by omega)
  have z2 := hz 2 (by omega)
  have z3 := hz 3 (by omega)
  have z4 := hz 4 (by omega)
  have z5 := hz 5 (by omega)
  have z6 := hz 6 (by omega)
  have z7 := hz 7 (by omega)
  rw [b4]; omega
theorem n_put_mk {N : n_S} {s T k : Nat} {t : w_T} {v : Int} (h : T = 80 * s + (N.1 s).toNat) : n_put (n_mk N s t) T k v = n_mk N s (s_fu t.1 k v, t.2) := by
  subst h
  have e : (n_mk N s t).2.1 (80 * s + (N.1 s).toNat) = t := s_fu_eq
  unfold n_put
  rw [e]
  unfold n_setT n_mk
  refine Prod.ext rfl (Prod.ext (funext fun u => ?_) rfl)
  show s_fu (s_fu _ _ _) _ _ u = s_fu _ _ _ u
  unfold s_fu
  split <;> rfl
theorem n_on_mk {N : n_S} {s T : Nat} {t : w_T} {r : List Int} (h : T = 80 * s + (N.1 s).toNat) : n_on (n_mk N s t) T r = n_mk N s (t.1, r, t.2.2) := by
  subst h
  have e : (n_mk N s t).2.1 (80 * s + (N.1 s).toNat) = t := s_fu_eq
  unfold n_on
  rw [e]
  unfold n_setT n_mk
  refine Prod.ext rfl (Prod.ext (funext fun u => ?_) rfl)
  show s_fu (s_fu _ _ _) _ _ u = s_fu _ _ _ u
  unfold s_fu
  split <;> rfl
theorem n_off_mk {N : n_S} {s T : Nat} {t : w_T} {r : List Int} (h : T = 80 * s + (N.1 s).toNat) : n_off (n_mk N s t) T r = n_mk N s (t.1, t.2.1, r) := by
  subst h
  have e : (n_mk N s t).2.1 (80 * s + (N.1 s).toNat) = t := s_fu_eq
  unfold n_off
  rw [e]
  unfold n_setT n_mk
  refine Prod.ext rfl (Prod.ext (funext fun u => ?_) rfl)
  show s_fu (s_fu _ _ _) _ _ u = s_fu _ _ _ u
  unfold s_fu
  split <;> rfl
theorem R_mkT {V : Nat → v_D} {S : w_S} {N : n_S} {a : Int} {s : Nat} {x t : w_T} (hR : R_S V S N a) (hz : R_z S) (hs : 1 ≤ s ∧ s < 7) (h3 : s ≠ 3) (hf : S.1 s < w_mx s) (h1 : t.1 1 = N.2.2.2.2.2.1 ∧ x.1 1 = a) (hp : s = 1 → R_p (S.1 1).toNat x t) (ht : 2 ≤ s → R_t S.2.2.2 s x t) : R_S V (w_addT S s x) (n_mk N s t) (a + 1) := by
  refine R_addT hR hz hs hf h1 hp ht rfl rfl ?_ (fun j _ => ?_) (fun e => absurd e h3) rfl rfl rfl
  · show (if s = 0 then _ else N.2.2.1) = N.2.2.1
    rw [if_neg (by omega)]
  · show (if s = 3 then _ else N.2.2.2.1) j = N.2.2.2.1 j
    rw [if_neg h3]
theorem m_made {M : e_M} {V : Nat → v_D} {S : w_S} {a : Int} {s : Nat} {s' name : Int} {Q : Int → e_M → Prop} (h : R_all M V S a) (hs : s < 7) (e : s' = (s : Int)) (hf : S.1 s < w_mx s) (hq : ∀ M', nn_ok M' → n_of M' = n_mk (n_of M) s (n_new (n_of M) name) → j_keep M M' → Q (S.1 s) M') : WX12_make s' name M Q := by
  subst e
  have e0 := R_many h.2.2.1 hs
  have tn := R_turn h.2.2.1 h.2.2.2.1
  refine m_make h.1 hs (by rw [e0]; exact hf) tn (fun M' k1 k2 k3 => ?_)
  rw [e0]; exact hq M' k1 k2 k3
theorem R_size {V : Nat → v_D} {S : w_S} {N : n_S} {a : Int} (hR : R_S V S N a) {s : Nat} (hs : s < 7) : N.1 s = S.1 s := hR.1.1 s hs
theorem m_born {M : e_M} {V : Nat → v_D} {S : w_S} {a : Int} {d x : Nat} {Q : Int → e_M → Prop} (h : R_all M V S a) (hm : m_mo M) (hx : x < 152) (hu : M 4465 x = (V d).1 8) (hnm : M 4467 (10 * x) = (V d).2.1 0) (hdd : (V d).1 4 = S.2.2.2) (hub : 0 ≤ (V d).1 8 ∧ (V d).1 8 ≤ 219144) (h1 : 1 ≤ S.1 1) (hq : j_q M V (a + 1) Q (X_person V S d a)) : WX12_born x M Q := by
  obtain ⟨hn, hc, hR, hz, hg, hd⟩ := id h
  have h' := R_all_le h (show a ≤ a + 1 by omega)
  have m1 : w_mx 1 = 40 := rfl
  have z1 := hz 1 (by omega)
  have e83 := R_many hR (show 1 < 7 by omega)
  have n1 := R_size hR (show 1 < 7 by omega)
  have q8 : (V d).1 4 < (V d).1 8 → j_q M V (a + 1) Q (8, S) := fun g => j_qx (c_if_pos g) hq
  have q7 : ¬ (V d).1 4 < (V d).1 8 → 40 ≤ S.1 1 → j_q M V (a + 1) Q (7, S) := fun g1 g2 => j_qx ((c_if_neg g1).trans (c_if_pos g2)) hq
  have q0 : ¬ (V d).1 4 < (V d).1 8 → ¬ 40 ≤ S.1 1 → j_q M V (a + 1) Q (0, _) := fun g1 g2 => j_qx ((c_if_neg g1).trans (c_if_neg g2)) hq
  unfold WX12_born VX12_born
  rw [show ((x : Nat) : Int).toNat = x by omega, s_w (x := 10 * (x : Int)) (by omega) (by omega), show (10 * (x : Int)).toNat = 10 * x by omega, hu, hnm, R_day hR]
  refine ⟨by omega, fun le => m_full (s := 1) rfl hm hn (by omega) (by omega) (fun f0 => ⟨fun _ => ⟨by omega, ?_⟩, fun z => absurd rfl z⟩) (fun f1 => ⟨fun z => by omega, fun _ => j_q_no h' (q7 (by omega) (by omega))⟩), fun gt => j_q_no h' (q8 (by omega))⟩
  refine m_made (s := 1) h (by omega) rfl (by omega) (fun M3 k1 k2 k3 => m_idt (t := 80 * 1 + (S.1 1).toNat) (by omega) (by omega) (by omega) ⟨by omega, by omega, fun M5 e5 => ?_⟩)
  rw [k3.1 4465 (by omega), hu, show (((80 * 1 + (S.1 1).toNat : Nat)) : Int).toNat = 80 * 1 + (S.1 1).toNat by omega] at e5
  obtain ⟨u1, u2⟩ := N_put4 (M := M3) (t := 80 * 1 + (S.1 1).toNat) (v := (V d).1 8) k1 (by omega)
  rw [e5]
  refine q0 (by omega) (by omega) _ u1 ?_ (j_keep_trans k3 (j_keep_cell (by omega)))
  rw [u2, k2, n_put_mk (by rw [n1])]
  refine R_mkT hR hz (by omega) (by omega) (by omega) ⟨?_, ?_⟩ (fun _ => ⟨⟨?_, ?_, ?_, ?_, ?_⟩, ⟨?_, ?_, ?_⟩, fun _ => ⟨⟨?_, ?_⟩, ?_⟩, fun z => ?_⟩) (fun z => by omega)
  · simp [s_fu, n_new]
  · simp [s_fu, w_new, t_new]
  · simp [s_fu, n_new, w_new, t_new]
  · simp [s_fu, n_new, w_new, t_new]
  · simp [s_fu, n_new, w_new, t_new]
  · simp [s_fu, n_new, w_new, t_new]
  · simp [s_fu, n_new, w_new, t_new]
  · rw [if_neg (by omega)]; simp [s_fu, n_new, w_new, t_new]
  · left; simp [s_fu, w_new, t_new]
  · intro z; omega
  · simp [s_fu, n_new, w_new, t_new]
  · simp [s_fu, w_new, t_new]
  · have e : (s_fu (s_fu (w_new S 1 ((V d).2.1 0) d a).1 4 ((V d).1 8)) 6 (cal_full ((V d).1 8))) 4 = (V d).1 8 := by simp [s_fu, w_new, t_new]
    exact ⟨e ▸ hub.1, e ▸ hub.2⟩
  · exfalso; revert z; simp [s_fu, w_new, t_new]
theorem m_firm {M : e_M} {V : Nat → v_D} {S : w_S} {a : Int} {d x : Nat} {r : Nat → Int} {Q : Int → e_M → Prop} (h : R_all M V S a) (hm : m_mo M) (hx : x < 152) (hnm : M 4467 (10 * x) = (V d).2.1 0) (i1 : M 4520 1 = r 1) (hr1 : 0 ≤ r 1 ∧ r 1 < S.1 1) (nt1 : (w_t S 1 (r 1).toNat).1 7 = 0) (h1 : 1 ≤ S.1 1) (hq : j_q M V (a + 1) Q (X_firm V S r d a)) : WX12_firm x M Q := by
  obtain ⟨hn, hc, hR, hz, hg, hd⟩ := id h
  have h' := R_all_le h (show a ≤ a + 1 by omega)
  have m1 : w_mx 1 = 40 := rfl
  have z1 := hz 1 (by omega)
  have e83 := R_many hR (show 1 < 7 by omega)
  have n1 := R_size hR (show 1 < 7 by omega)
  obtain ⟨p, e1⟩ : ∃ p : Nat, r 1 = p := ⟨(r 1).toNat, by omega⟩
  have hp : (p : Int) < S.1 1 := by omega
  have p80 := R_mx hz (show 1 < 7 by omega) hp
  have epn : (r 1).toNat = p := by omega
  rw [epn] at nt1
  obtain ⟨-, -, -, -, -, -, -, c7⟩ := n_c (M := M) (t := 80 * 1 + p) (by omega)
  have q2 : w_age S p = false → j_q M V (a + 1) Q (2, S) := fun g => j_qx (c_if_pos (by rw [epn]; exact g)) hq
  have q7 : w_age S p = true → 40 ≤ S.1 1 → j_q M V (a + 1) Q (7, S) := fun g1 g2 => j_qx ((c_if_neg (b_tf (by rw [epn]; exact g1))).trans (c_if_pos g2)) hq
  have q0 : w_age S p = true → ¬ 40 ≤ S.1 1 → j_q M V (a + 1) Q (0, _) := fun g1 g2 => j_qx ((c_if_neg (b_tf (by rw [epn]; exact g1))).trans (c_if_neg g2)) hq
  unfold WX12_firm VX12_firm
  rw [show (1 : Int).toNat = 1 from rfl, i1, e1, s_w (x := 10 * (x : Int)) (by omega) (by omega), show (10 * (x : Int)).toNat = 10 * x by omega, hnm, R_day hR]
  refine ⟨by omega, m_idt (t := 80 * 1 + p) (by omega) (by omega) (by omega) ?_⟩
  rw [show (((80 * 1 + p : Nat)) : Int).toNat = 80 * 1 + p by omega, c7, R_nat hR hp nt1]
  refine ⟨by omega, fun _ => m_isAge hc hR hz hd hp (fun ag => ⟨fun _ => m_full (s := 1) rfl hm hn (by omega) (by omega) (fun f0 => ⟨fun _ => ⟨by omega, ?_⟩, fun z => absurd rfl z⟩) (fun f1 => ⟨fun z => by omega, fun _ => j_q_no h' (q7 ag (by omega))⟩), fun z => by omega⟩) (fun ag => ⟨fun z => absurd rfl z, fun _ => j_q_no h' (q2 ag)⟩), fun z => absurd rfl z⟩
  refine m_made (s := 1) h (by omega) rfl (by omega) (fun M5 k1 k2 k3 => m_idt (t := 80 * 1 + (S.1 1).toNat) (by omega) (by omega) (by omega) ⟨by omega, fun M7 e7 => ⟨by omega, fun M8 e8 => ?_⟩⟩)
  rw [show (((80 * 1 + (S.1 1).toNat : Nat)) : Int).toNat = 80 * 1 + (S.1 1).toNat by omega] at e7 e8
  obtain ⟨u1, u2⟩ := N_put7 (M := M5) (t := 80 * 1 + (S.1 1).toNat) (v := 1) k1 (by omega)
  rw [← e7] at u1 u2
  obtain ⟨v1, v2⟩ := N_put5 (M := M7) (t := 80 * 1 + (S.1 1).toNat) (v := (p : Int)) u1 (by omega)
  rw [← e8] at v1 v2
  refine q0 ag (by omega) _ v1 ?_ (j_keep_trans k3 (j_keep_trans (j_keep_up e7 (by omega)) (j_keep_up e8 (by omega))))
  rw [v2, u2, k2, n_put_mk (by rw [n1]), n_put_mk (by rw [n1])]
  refine R_mkT hR hz (by omega) (by omega) (by omega) ⟨?_, ?_⟩ (fun _ => ⟨⟨?_, ?_, ?_, ?_, ?_⟩, ⟨?_, ?_, ?_⟩, fun z => ?_, fun z => ?_⟩) (fun z => by omega)
  · simp [s_fu, n_new]
  · simp [s_fu, w_new, t_new]
  · simp [s_fu, n_new, w_new, t_new]
  · simp [s_fu, n_new, w_new, t_new]
  · simp [s_fu, n_new, w_new, t_new]
  · simp [s_fu, n_new, w_new, t_new]
  · simp [s_fu, n_new, w_new, t_new]; omega
  · rw [if_neg (by omega)]; simp [s_fu, n_new, w_new, t_new]
  · right; simp [s_fu, w_new, t_new]
  · intro z; omega
  · exfalso; revert z; simp [s_fu, w_new, t_new]
  · simp [s_fu, w_new, t_new]
theorem j_keep_fr {M M' : e_M} {n c t : Nat} (f : j_fr M M' n c t) (hn : 4483 ≤ n ∧ n < 4520) (hc : 4483 ≤ c ∧ c < 4520) : j_keep M M' := ⟨fun b hb => f.1 b (by omega) (by omega), fun k hk => by rw [f.1 4456 (by omega) (by omega)]⟩
theorem m_inNew {M : e_M} {N : n_S} {s T : Nat} {t : w_T} {l : Int} {Q : e_M → Prop} (hn : nn_ok M) (hT : T < 560) (hTe : T = 80 * s + (N.1 s).toNat) (e : n_of M = n_mk N s t) (h0 : t.2.1 = []) (hq : ∀ M', nn_ok M' → n_of M' = n_mk N s (t.1, [l], t.2.2) → j_keep M M' → j_fr M M' 4492 4493 T → Q M') : WX12_inOn (T : Int) 0 l M Q := by
  have jk := (hn.2.1 T hT).1
  have er : j_row M 4492 4493 T = [] := by
    rw [(n_r hT).1, e]
    show (s_fu N.2.1 (80 * s + (N.1 s).toNat) t T).2.1 = []
    rw [hTe, s_fu_eq]; exact h0
  have jl := j_row_len (c := 4493) jk
  rw [er] at jl
  have jl0 : M 4492 T = 0 := jl.symm
  have tt : ((T : Nat) : Int).toNat = T := by omega
  refine m_inOn (t := (T : Int)) (by omega) (by rw [tt]; exact jk) (by rw [tt]; omega) (by rw [tt]; omega) (fun M' r1 r2 r3 => ?_)
  rw [tt] at r1 r2 r3
  rw [er] at r1
  obtain ⟨u1, u2⟩ := N_on hn hT r1 r2 r3
  refine hq M' u1 ?_ (j_keep_fr r3 (by omega) (by omega)) r3
  rw [u2, e, n_on_mk hTe]; rfl
theorem m_caution {M : e_M} {V : Nat → v_D} {S : w_S} {a : Int} {d x : Nat} {r : Nat → Int} {Q : Int → e_M → Prop} (h : R_all M V S a) (hm : m_mo M) (hx : x < 152) (hnm : M 4467 (10 * x) = (V d).2.1 0) (hdd : (V d).1 4 = S.2.2.2) (i1 : M 4520 1 = r 1) (i2 : M 4520 2 = r 2) (hq : j_q M V (a + 1) Q (X_caution V S r d a)) : WX12_caution x M Q := by
  obtain ⟨hn, hc, hR, hz, hg, hd⟩ := id h
  have h' := R_all_le h (show a ≤ a + 1 by omega)
  have m1 : w_mx 5 = 40 := rfl
  have z1 := hz 5 (by omega)
  have e83 := R_many hR (show 5 < 7 by omega)
  have n1 := R_size hR (show 5 < 7 by omega)
  have q7 : 40 ≤ S.1 5 → j_q M V (a + 1) Q (7, S) := fun g => j_qx (c_if_pos g) hq
  have q0 : ¬ 40 ≤ S.1 5 → j_q M V (a + 1) Q (0, _) := fun g => j_qx (c_if_neg g) hq
  unfold WX12_caution VX12_caution
  rw [show (1 : Int).toNat = 1 from rfl, show (2 : Int).toNat = 2 from rfl, s_w (x := 10 * (x : Int)) (by omega) (by omega), show (10 * (x : Int)).toNat = 10 * x by omega, hnm]
  refine m_full (s := 5) rfl hm hn (by omega) (by omega) (fun f0 => ⟨fun _ => ⟨by omega, ?_⟩, fun z => absurd rfl z⟩) (fun f1 => ⟨fun z => by omega, fun _ => j_q_no h' (q7 (by omega))⟩)
  refine m_made (s := 5) h (by omega) rfl (by omega) (fun M3 k1 k2 k3 => m_idt (t := 80 * 5 + (S.1 5).toNat) (by omega) (by omega) (by omega) ⟨by omega, by omega, fun M5 e5 => ⟨by omega, fun M6 e6 => ⟨by omega, ?_⟩⟩⟩)
  have d5 : M5 4456 86 = S.2.2.2 := by rw [e5, e_up_row (by omega), k3.2 86 (by omega)]; exact R_day hR
  have i16 : M6 4520 1 = r 1 := by rw [e6, e_up_row (by omega), e5, e_up_row (by omega), k3.1 4520 (by omega), i1]
  rw [k3.1 4520 (by omega), i2, show (((80 * 5 + (S.1 5).toNat : Nat)) : Int).toNat = 80 * 5 + (S.1 5).toNat by omega] at e5
  rw [d5, s_w (by omega) (by omega), show (((80 * 5 + (S.1 5).toNat : Nat)) : Int).toNat = 80 * 5 + (S.1 5).toNat by omega] at e6
  rw [i16]
  obtain ⟨u1, u2⟩ := N_put5 (M := M3) (t := 80 * 5 + (S.1 5).toNat) (v := r 2) k1 (by omega)
  rw [← e5, k2, n_put_mk (by rw [n1])] at u2
  rw [← e5] at u1
  obtain ⟨v1, v2⟩ := N_put3 (M := M5) (t := 80 * 5 + (S.1 5).toNat) (v := S.2.2.2 + 180) u1 (by omega)
  rw [← e6, u2, n_put_mk (by rw [n1])] at v2
  rw [← e6] at v1
  refine m_inNew v1 (by omega) (by rw [n1]) v2 rfl (fun M7 w1 w2 w3 _ => ?_)
  refine q0 (by omega) _ w1 ?_ (j_keep_trans (j_keep_trans k3 (j_keep_trans (j_keep_up e5 (by omega)) (j_keep_up e6 (by omega)))) w3)
  rw [w2]
  refine R_mkT hR hz (by omega) (by omega) (by omega) ⟨?_, ?_⟩ (fun z => by omega) (fun _ => ⟨?_, ?_, fun _ => ⟨fun _ => ?_, fun z => by omega, fun z => by omega, fun _ => ⟨?_, ?_, ?_⟩, fun z => by omega, fun _ => ?_, fun z => by omega⟩⟩)
  · simp [s_fu, n_new]
  · simp [s_fu, t_term, w_new, t_new]
  · simp [s_fu, n_new, t_term, w_new, t_new]
  · unfold t_thr; simp [s_fu, n_new, t_term, w_new, t_new, hdd]
  · simp [s_fu, n_new, t_term, w_new, t_new]
  · rfl
  · rfl
  · rfl
  · simp [s_fu, n_new, t_term, w_new, t_new, hdd]
theorem m_option {M : e_M} {V : Nat → v_D} {S : w_S} {a : Int} {d x : Nat} {r : Nat → Int} {Q : Int → e_M → Prop} (h : R_all M V S a) (hm : m_mo M) (hx : x < 152) (hnm : M 4467 (10 * x) = (V d).2.1 0) (hu : M 4465 x = (V d).1 8) (hdd : (V d).1 4 = S.2.2.2) (i1 : M 4520 1 = r 1) (i2 : M 4520 2 = r 2) (hr1 : 0 ≤ r 1 ∧ r 1 < S.1 0) (hq : j_q M V (a + 1) Q (X_option V S r d a)) : WX12_option x M Q := by
  obtain ⟨hn, hc, hR, hz, hg, hd⟩ := id h
  have h' := R_all_le h (show a ≤ a + 1 by omega)
  have m1 : w_mx 6 = 30 := rfl
  have z1 := hz 6 (by omega)
  have e83 := R_many hR (show 6 < 7 by omega)
  have n1 := R_size hR (show 6 < 7 by omega)
  obtain ⟨l, el⟩ : ∃ l : Nat, r 1 = l := ⟨(r 1).toNat, by omega⟩
  have hl : (l : Int) < S.1 0 := by omega
  have eln : (r 1).toNat = l := by omega
  have q8 : (V d).1 8 ≤ (V d).1 4 → j_q M V (a + 1) Q (8, S) := fun g => j_qx (c_if_pos g) hq
  have q2 : ¬ (V d).1 8 ≤ (V d).1 4 → ¬ w_oab S l → j_q M V (a + 1) Q (2, S) := fun g1 g2 => j_qx ((c_if_neg g1).trans (c_if_pos (by rw [eln]; exact g2))) hq
  have q4 : ¬ (V d).1 8 ≤ (V d).1 4 → w_oab S l → w_bar S l (-1) → j_q M V (a + 1) Q (4, S) := fun g1 g2 g3 => j_qx ((c_if_neg g1).trans ((c_if_neg (fun n => n (by rw [eln]; exact g2))).trans (c_if_pos (by rw [el]; exact g3)))) hq
  have q7 : ¬ (V d).1 8 ≤ (V d).1 4 → w_oab S l → ¬ w_bar S l (-1) → 30 ≤ S.1 6 → j_q M V (a + 1) Q (7, S) := fun g1 g2 g3 g4 => j_qx ((c_if_neg g1).trans ((c_if_neg (fun n => n (by rw [eln]; exact g2))).trans ((c_if_neg (by rw [el]; exact g3)).trans (c_if_pos g4)))) hq
  have q0 : ¬ (V d).1 8 ≤ (V d).1 4 → w_oab S l → ¬ w_bar S l (-1) → ¬ 30 ≤ S.1 6 → j_q M V (a + 1) Q (0, _) := fun g1 g2 g3 g4 => j_qx ((c_if_neg g1).trans ((c_if_neg (fun n => n (by rw [eln]; exact g2))).trans ((c_if_neg (by rw [el]; exact g3)).trans (c_if_neg g4)))) hq
  unfold WX12_option VX12_option
  rw [show (1 : Int).toNat = 1 from rfl, show (2 : Int).toNat = 2 from rfl, show ((x : Nat) : Int).toNat = x by omega, s_w (x := 10 * (x : Int)) (by omega) (by omega), show (10 * (x : Int)).toNat = 10 * x by omega, hnm, hu, R_day hR, i1, el]
  refine ⟨by omega, by omega, fun lt => m_areAble h hl (fun ab => ⟨fun _ => m_isBarred h (fun ba => ⟨fun z => by omega, fun _ => j_q_no h' (q4 (by omega) ab ba)⟩) (fun ba => ⟨fun _ => m_full (s := 6) rfl hm hn (by omega) (by omega) (fun f0 => ⟨fun _ => ⟨by omega, ?_⟩, fun z => absurd rfl z⟩) (fun f1 => ⟨fun z => by omega, fun _ => j_q_no h' (q7 (by omega) ab ba (by omega))⟩), fun z => absurd rfl z⟩), fun z => by omega⟩) (fun ab => ⟨fun z => absurd rfl z, fun _ => j_q_no h' (q2 (by omega) ab)⟩), fun ge => j_q_no h' (q8 (by omega))⟩
  refine m_made (s := 6) h (by omega) rfl (by omega) (fun M3 k1 k2 k3 => m_idt (t := 80 * 6 + (S.1 6).toNat) (by omega) (by omega) (by omega) ⟨by omega, by omega, fun M5 e5 => ⟨by omega, by omega, fun M6 e6 => ?_⟩⟩)
  have u5 : M5 4465 x = (V d).1 8 := by rw [e5, e_up_row (by omega), k3.1 4465 (by omega), hu]
  rw [k3.1 4520 (by omega), i2, show (((80 * 6 + (S.1 6).toNat : Nat)) : Int).toNat = 80 * 6 + (S.1 6).toNat by omega] at e5
  rw [u5, show (((80 * 6 + (S.1 6).toNat : Nat)) : Int).toNat = 80 * 6 + (S.1 6).toNat by omega] at e6
  obtain ⟨u1, u2⟩ := N_put5 (M := M3) (t := 80 * 6 + (S.1 6).toNat) (v := r 2) k1 (by omega)
  rw [← e5, k2, n_put_mk (by rw [n1])] at u2
  rw [← e5] at u1
  obtain ⟨v1, v2⟩ := N_put3 (M := M5) (t := 80 * 6 + (S.1 6).toNat) (v := (V d).1 8) u1 (by omega)
  rw [← e6, u2, n_put_mk (by rw [n1])] at v2
  rw [← e6] at v1
  refine m_inNew v1 (by omega) (by rw [n1]) v2 rfl (fun M7 w1 w2 w3 _ => ?_)
  refine q0 (by omega) ab ba (by omega) _ w1 ?_ (j_keep_trans (j_keep_trans k3 (j_keep_trans (j_keep_up e5 (by omega)) (j_keep_up e6 (by omega)))) w3)
  rw [w2]
  refine R_mkT hR hz (by omega) (by omega) (by omega) ⟨?_, ?_⟩ (fun z => by omega) (fun _ => ⟨?_, ?_, fun _ => ⟨fun _ => ?_, fun z => by omega, fun z => by omega, fun _ => ⟨?_, ?_, ?_⟩, fun z => by omega, fun _ => ?_, fun z => by omega⟩⟩)
  · simp [s_fu, n_new]
  · simp [s_fu, t_term, w_new, t_new]
  · simp [s_fu, n_new, t_term, w_new, t_new]
  · unfold t_thr; simp [s_fu, n_new, t_term, w_new, t_new]
  · simp [s_fu, n_new, t_term, w_new, t_new]
  · simp [t_term, el]
  · rfl
  · rfl
  · simp [s_fu, n_new, t_term, w_new, t_new]
theorem m_lease {M : e_M} {V : Nat → v_D} {S : w_S} {a : Int} {d x : Nat} {r : Nat → Int} {Q : Int → e_M → Prop} (h : R_all M V S a) (hm : m_mo M) (hx : x < 152) (hnm : M 4467 (10 * x) = (V d).2.1 0) (hu : M 4465 x = (V d).1 8) (hnu : M 4464 x = (V d).1 9) (hdd : (V d).1 4 = S.2.2.2) (i1 : M 4520 1 = r 1) (i2 : M 4520 2 = r 2) (hr1 : 0 ≤ r 1 ∧ r 1 < S.1 0) (hr2 : 0 ≤ r 2 ∧ r 2 < S.1 1) (hq : j_q M V (a + 1) Q (X_lease V S r d a)) : WX12_lease x M Q := by
  obtain ⟨hn, hc, hR, hz, hg, hd⟩ := id h
  have h' := R_all_le h (show a ≤ a + 1 by omega)
  have m1 : w_mx 4 = 40 := rfl
  have z1 := hz 4 (by omega)
  have e83 := R_many hR (show 4 < 7 by omega)
  have n1 := R_size hR (show 4 < 7 by omega)
  obtain ⟨l, el⟩ : ∃ l : Nat, r 1 = l := ⟨(r 1).toNat, by omega⟩
  obtain ⟨p, ep⟩ : ∃ p : Nat, r 2 = p := ⟨(r 2).toNat, by omega⟩
  have hl : (l : Int) < S.1 0 := by omega
  have hp : (p : Int) < S.1 1 := by omega
  have eln : (r 1).toNat = l := by omega
  have epn : (r 2).toNat = p := by omega
  have hww := (hg.2 1 p (by omega) (by omega) hp).1.1
  have q8 : (V d).1 8 ≤ (V d).1 4 → j_q M V (a + 1) Q (8, S) := fun g => j_qx (c_if_pos g) hq
  have q2 : ¬ (V d).1 8 ≤ (V d).1 4 → ¬ (w_oab S l ∧ w_abl S p = true) → j_q M V (a + 1) Q (2, S) := fun g1 g2 => j_qx ((c_if_neg g1).trans (c_if_pos (by rw [eln, epn]; exact g2))) hq
  have q4 : ¬ (V d).1 8 ≤ (V d).1 4 → (w_oab S l ∧ w_abl S p = true) → w_bar S l (-1) → j_q M V (a + 1) Q (4, S) := fun g1 g2 g3 => j_qx ((c_if_neg g1).trans ((c_if_neg (fun n => n (by rw [eln, epn]; exact g2))).trans (c_if_pos (by rw [el]; exact g3)))) hq
  have q5 : ¬ (V d).1 8 ≤ (V d).1 4 → (w_oab S l ∧ w_abl S p = true) → ¬ w_bar S l (-1) → w_leased S l → j_q M V (a + 1) Q (5, S) := fun g1 g2 g3 g4 => j_qx ((c_if_neg g1).trans ((c_if_neg (fun n => n (by rw [eln, epn]; exact g2))).trans ((c_if_neg (by rw [el]; exact g3)).trans (c_if_pos (by rw [el]; exact g4))))) hq
  have q7 : ¬ (V d).1 8 ≤ (V d).1 4 → (w_oab S l ∧ w_abl S p = true) → ¬ w_bar S l (-1) → ¬ w_leased S l → 40 ≤ S.1 4 → j_q M V (a + 1) Q (7, S) := fun g1 g2 g3 g4 g5 => j_qx ((c_if_neg g1).trans ((c_if_neg (fun n => n (by rw [eln, epn]; exact g2))).trans ((c_if_neg (by rw [el]; exact g3)).trans ((c_if_neg (by rw [el]; exact g4)).trans (c_if_pos g5))))) hq
  have q0 : ¬ (V d).1 8 ≤ (V d).1 4 → (w_oab S l ∧ w_abl S p = true) → ¬ w_bar S l (-1) → ¬ w_leased S l → ¬ 40 ≤ S.1 4 → j_q M V (a + 1) Q (0, _) := fun g1 g2 g3 g4 g5 => j_qx ((c_if_neg g1).trans ((c_if_neg (fun n => n (by rw [eln, epn]; exact g2))).trans ((c_if_neg (by rw [el]; exact g3)).trans ((c_if_neg (by rw [el]; exact g4)).trans (c_if_neg g5))))) hq
  have k63 : ¬ (V d).1 8 ≤ (V d).1 4 → (w_oab S l ∧ w_abl S p = true) → ¬ w_bar S l (-1) → ∃ j, WX12_lease_63 Q j x l 0 M := by
    intro g1 g2 g3
    refine s_up (σ := Unit) (P := fun dd i _ => WX12_lease_63 Q dd x l i M) (n := S.1 4) (i0 := 0) (s := ()) (fun i _ => ∀ j : Nat, (j : Int) < i → ¬ (w_thr S 4 j = true ∧ (l : Int) ∈ (w_t S 4 j).2.1)) z1.1 (fun j hj => by omega) ?_ ?_
    · intro d2 _ hI
      have g4 : ¬ w_leased S l := fun ⟨i, i1, i2, i3⟩ => hI i i1 ⟨i2, i3⟩
      unfold WX12_lease_63 VX12_lease_63
      rw [show (2 : Int).toNat = 2 from rfl, show (4 : Int).toNat = 4 from rfl, show ((x : Nat) : Int).toNat = x by omega, s_w (x := 10 * (x : Int)) (by omega) (by omega), show (10 * (x : Int)).toNat = 10 * x by omega, hnm, e83]
      refine ⟨by omega, fun _ => m_full (s := 4) rfl hm hn (by omega) (by omega) (fun f0 => ⟨fun _ => ⟨by omega, ?_⟩, fun z => absurd rfl z⟩) (fun f1 => ⟨fun z => by omega, fun _ => j_q_no h' (q7 g1 g2 g3 g4 (by omega))⟩), fun z => by omega⟩
      refine m_made (s := 4) h (by omega) rfl (by omega) (fun M3 k1 k2 k3 => m_idt (t := 80 * 4 + (S.1 4).toNat) (by omega) (by omega) (by omega) ⟨by omega, by omega, fun M5 e5 => ⟨by omega, by omega, fun M6 e6 => ⟨by omega, by omega, fun M7 e7 => ?_⟩⟩⟩)
      have u5 : M5 4464 x = (V d).1 9 := by rw [e5, e_up_row (by omega), k3.1 4464 (by omega), hnu]
      have u6 : M6 4465 x = (V d).1 8 := by rw [e6, e_up_row (by omega), e5, e_up_row (by omega), k3.1 4465 (by omega), hu]
      have tt : (((80 * 4 + (S.1 4).toNat : Nat)) : Int).toNat = 80 * 4 + (S.1 4).toNat := by omega
      rw [k3.1 4520 (by omega), i2, tt] at e5
      rw [u5, tt] at e6
      rw [u6, tt] at e7
      obtain ⟨u1, u2⟩ := N_put5 (M := M3) (t := 80 * 4 + (S.1 4).toNat) (v := r 2) k1 (by omega)
      rw [← e5, k2, n_put_mk (by rw [n1])] at u2
      rw [← e5] at u1
      obtain ⟨t1, t2⟩ := N_put6 (M := M5) (t := 80 * 4 + (S.1 4).toNat) (v := (V d).1 9) u1 (by omega)
      rw [← e6, u2, n_put_mk (by rw [n1])] at t2
      rw [← e6] at t1
      obtain ⟨v1, v2⟩ := N_put3 (M := M6) (t := 80 * 4 + (S.1 4).toNat) (v := (V d).1 8) t1 (by omega)
      rw [← e7, t2, n_put_mk (by rw [n1])] at v2
      rw [← e7] at v1
      refine m_inNew v1 (by omega) (by rw [n1]) v2 rfl (fun M8 w1 w2 w3 _ => ?_)
      refine q0 g1 g2 g3 g4 (by omega) _ w1 ?_ (j_keep_trans (j_keep_trans k3 (j_keep_trans (j_keep_up e5 (by omega)) (j_keep_trans (j_keep_up e6 (by omega)) (j_keep_up e7 (by omega))))) w3)
      rw [w2]
      refine R_mkT hR hz (by omega) (by omega) (by omega) ⟨?_, ?_⟩ (fun z => by omega) (fun _ => ⟨?_, ?_, fun _ => ⟨fun _ => ?_, fun _ => ?_, fun z => by omega, fun _ => ⟨?_, ?_, ?_⟩, fun _ => ?_, fun _ => ?_, fun z => by omega⟩⟩)
      · simp [s_fu, n_new]
      · simp [s_fu, t_term, w_new, t_new]
      · simp [s_fu, n_new, t_term, w_new, t_new]
      · unfold t_thr; simp [s_fu, n_new, t_term, w_new, t_new]
      · simp [s_fu, n_new, t_term, w_new, t_new]
      · simp [s_fu, n_new, t_term, w_new, t_new]
      · simp [t_term, el]
      · rfl
      · rfl
      · have := R_day hR
        simp [s_fu, n_new, t_term, w_new, t_new]
        exact this
      · simp [s_fu, n_new, t_term, w_new, t_new]
    · intro d2 i _ b1 b2 hI ih
      have hi : ((i.toNat : Nat) : Int) < S.1 4 := by omega
      have i80 := R_mx hz (show 4 < 7 by omega) hi
      have rt := R_thr hR (by omega) (show 4 < 7 by omega) hi
      have k101 : ¬ (w_thr S 4 i.toNat = true ∧ (l : Int) ∈ (w_t S 4 i.toNat).2.1) → WX12_lease_101 (WX12_lease_63 Q d2) Q x l i M := by
        intro hno
        unfold WX12_lease_101 VX12_lease_101
        rw [s_w (by omega) (by omega)]
        refine ih () (fun j hj => ?_)
        by_cases c : (j : Int) = i
        · rw [show j = i.toNat by omega]; exact hno
        · exact hI j (by omega)
      unfold WX12_lease_63 VX12_lease_63
      rw [show (4 : Int).toNat = 4 from rfl, e83, R_day hR]
      refine ⟨by omega, fun z => by omega, fun _ => ?_⟩
      rw [show i = ((i.toNat : Nat) : Int) by omega] at k101 ⊢
      rw [show (((i.toNat : Nat)) : Int).toNat = i.toNat by omega] at k101
      refine m_isThere (s := 4) (by omega) i80 (fun t => ⟨fun z => by omega, fun _ => m_idt (t := 80 * 4 + i.toNat) (by omega) (by omega) (by omega) (m_placeOn (t := ((80 * 4 + i.toNat : Nat) : Int)) (by omega) ?_ ?_)⟩) (fun t => ⟨fun _ => k101 (fun c => by rw [← rt, t] at c; cases c.1), fun z => absurd rfl z⟩)
      · rw [show (((80 * 4 + i.toNat : Nat)) : Int).toNat = 80 * 4 + i.toNat by omega]; exact (hn.2.1 _ (by omega)).1
      · rw [show (((80 * 4 + i.toNat : Nat)) : Int).toNat = 80 * 4 + i.toNat by omega, (n_r (M := M) (t := 80 * 4 + i.toNat) (by omega)).1]
        have th : w_thr S 4 i.toNat = true := by rw [← rt]; exact t
        have rb := (R_rows (s := 4) hR (by omega) hi th).2.2.2.1 (by omega)
        rw [rb.1]
        exact ⟨fun ng => k101 (fun c => by have := r_find_mem.mpr c.2; omega), fun nn => j_q_no h' (q5 g1 g2 g3 ⟨i.toNat, hi, th, r_find_mem.mp nn⟩)⟩
  unfold WX12_lease VX12_lease
  rw [show (1 : Int).toNat = 1 from rfl, show (2 : Int).toNat = 2 from rfl, show ((x : Nat) : Int).toNat = x by omega, hu, R_day hR, i1, i2, el, ep]
  refine ⟨by omega, by omega, fun lt => m_areAble h hl (fun ab => ⟨fun z => by omega, fun _ => ⟨by omega, m_isAble hc hR hz hd hp hww (fun ab2 => ⟨fun _ => m_isBarred h (fun ba => ⟨fun z => by omega, fun _ => j_q_no h' (q4 (by omega) ⟨ab, ab2⟩ ba)⟩) (fun ba => ⟨fun _ => k63 (by omega) ⟨ab, ab2⟩ ba, fun z => absurd rfl z⟩), fun z => by omega⟩) (fun ab2 => ⟨fun z => absurd rfl z, fun _ => j_q_no h' (q2 (by omega) (fun c => by rw [ab2] at c; cases c.2))⟩)⟩⟩) (fun ab => ⟨fun _ => j_q_no h' (q2 (by omega) (fun c => ab c.1)), fun z => absurd rfl z⟩), fun ge => j_q_no h' (q8 (by omega))⟩
