/-! THE MODEL: BORDER, the whole of it -/
theorem m_border {M : e_M} {V : Nat → v_D} {S : w_S} {a : Int} {d x : Nat} {r : Nat → Int} {Q : Int → e_M → Prop} (h : R_all M V S a) (hpb3 : ∀ i : Nat, (i : Int) < S.1 3 → s_pb (V ((w_t S 3 i).1 11).toNat).2.2.2.2) (hH : H_fig S) (hx : x < 152) (hD : D_at M x (V d)) (hv : v_ok (V d)) (i0 : M 4520 0 = r 0) (i1 : M 4520 1 = r 1) (h0 : 0 ≤ r 0 ∧ r 0 < S.1 0) (h1 : 0 ≤ r 1 ∧ r 1 < S.1 0) (t0 : w_thr S 0 (r 0).toNat = true) (t1 : w_thr S 0 (r 1).toNat = true) (hq : j_q M V a Q (X_border V S r d)) : WX12_border x M Q := by
  obtain ⟨hn, hc, hR, hz, hg, hd⟩ := id h
  obtain ⟨l, el⟩ : ∃ l : Nat, r 0 = l := ⟨(r 0).toNat, by omega⟩
  obtain ⟨k, ek⟩ : ∃ k : Nat, r 1 = k := ⟨(r 1).toNat, by omega⟩
  have tl : (r 0).toNat = l := by omega
  have tk : (r 1).toNat = k := by omega
  rw [tl] at t0
  rw [tk] at t1
  have hl : (l : Int) < S.1 0 := by omega
  have hk : (k : Int) < S.1 0 := by omega
  have l80 := R_mx hz (show 0 < 7 by omega) hl
  have k80 := R_mx hz (show 0 < 7 by omega) hk
  have HF : H_l (w_l S l).2.1 := hH.2.1 l hl
  have HG : H_l (w_l S k).2.1 := hH.2.1 k hk
  have eF := (R_lo hR hz hl).1
  have eG := (R_lo hR hz hk).1
  have hpb : s_pb (V d).2.2.2.2 := hv.2.2.2.2.2.2
  obtain ⟨-, -, -, -, D6, D18, D18b⟩ := hD
  obtain ⟨m, em⟩ : ∃ m : Nat, M 4474 x = m := ⟨(M 4474 x).toNat, by omega⟩
  obtain ⟨n, en⟩ : ∃ n : Nat, M 4496 l = n := ⟨(M 4496 l).toNat, by have := (hn.2.2.1 l l80).1; omega⟩
  obtain ⟨g, eg⟩ : ∃ g : Nat, M 4496 k = g := ⟨(M 4496 k).toNat, by have := (hn.2.2.1 k k80).1; omega⟩
  have n40 : n ≤ 40 := by have := (hn.2.2.1 l l80).1; omega
  have g40 : g ≤ 40 := by have := (hn.2.2.1 k k80).1; omega
  rw [en] at eF
  rw [eg] at eG
  have dj : l ≠ k → gt_dj (w_l S l).2.1 (w_l S k).2.1 := fun ne => H_dj hH hl hk (H_thr t0) (H_thr t1) ne
  unfold X_border at hq
  rw [tl, tk, el, ek] at hq
  have q1 : (l : Int) = k → j_q M V a Q (1, S) := fun g => j_qx (c_if_pos g) hq
  have q2 : ¬ (l : Int) = k → ¬ (w_oab S l ∧ w_oab S k) → j_q M V a Q (2, S) := fun g1 g2 => j_qx ((c_if_neg g1).trans (c_if_pos g2)) hq
  have q4 : ¬ (l : Int) = k → (w_oab S l ∧ w_oab S k) → (w_bar S l (-1) ∨ w_bar S k (-1)) → j_q M V a Q (4, S) := fun g1 g2 g3 => j_qx ((c_if_neg g1).trans ((c_if_neg (fun n => n g2)).trans (c_if_pos g3))) hq
  have qq : ¬ (l : Int) = k → (w_oab S l ∧ w_oab S k) → ¬ (w_bar S l (-1) ∨ w_bar S k (-1)) → j_q M V a Q (X_border1 V S r d (g_jraw (w_l S l).2.1 (w_l S k).2.1)) := fun g1 g2 g3 => j_qx ((c_if_neg g1).trans ((c_if_neg (fun n => n g2)).trans (c_if_neg g3))) hq
  clear hq
  generalize hps : (V d).2.2.2.2 = ps at *
  generalize hFF : (w_l S l).2.1 = F at *
  generalize hGG : (w_l S k).2.1 = G at *
  unfold WX12_border VX12_border
  rw [show ((0 : Int).toNat) = 0 from rfl, show ((1 : Int).toNat) = 1 from rfl, i0, i1, el, ek]
  rw [s_w (x := 40 * (l : Int)) (by omega) (by omega), s_w (x := 40 * (k : Int)) (by omega) (by omega), show ((l : Nat) : Int).toNat = l by omega, show ((k : Nat) : Int).toNat = k by omega]
  refine ⟨by omega, by omega, fun ne => ?_, fun e => j_q_no h (q1 e)⟩
  refine m_areAble h hl (fun ab => ⟨fun z => absurd z (by decide), fun _ => ?_⟩) (fun ab => ⟨fun _ => j_q_no h (q2 ne (fun c => ab c.1)), fun z => absurd rfl z⟩)
  refine m_areAble h hk (fun ab2 => ⟨fun _ => ?_, fun z => absurd z (by decide)⟩) (fun ab2 => ⟨fun z => absurd rfl z, fun _ => j_q_no h (q2 ne (fun c => ab2 c.2))⟩)
  refine m_isBarred h (fun br => ⟨fun _ => j_q_no h (q4 ne ⟨ab, ab2⟩ (Or.inl br)), fun z => absurd z (by decide)⟩) (fun br => ⟨fun z => absurd rfl z, fun _ => ?_⟩)
  refine m_isBarred h (fun br2 => ⟨fun z => absurd z (by decide), fun _ => j_q_no h (q4 ne ⟨ab, ab2⟩ (Or.inr br2))⟩) (fun br2 => ⟨fun _ => ⟨by omega, by omega, ?_⟩, fun z => absurd rfl z⟩)
  have go := qq ne ⟨ab, ab2⟩ (fun c => c.elim br br2)
  clear q1 q2 q4 qq
  have nlk : l ≠ k := fun e => ne (by rw [e])
  have pr := H_pr HF.1 HG.1 HF.2.2.1 HG.2.2.1 (dj nlk)
  refine m_joins (f := 40 * l) (n := n) (g := 40 * k) (m := g) (F := F) (G := G) (by omega) en (by omega) eg (by omega) (by omega) eF eG HF.1 HG.1 HF.2.1 HG.2.1 HF.2.2.1 HG.2.2.1 HF.2.2.2 HG.2.2.2 pr (fun R N w hR' ok p e46 row => ⟨fun z => absurd z (by decide), fun _ => ?_⟩) (fun N no p => ⟨fun _ => ?_, fun z => absurd rfl z⟩)
  · -- they join
    rw [hR'] at go
    obtain ⟨fR, bR, -⟩ := H_join HF HG pr hR'
    have HC := H_cls fR bR ok.2
    obtain ⟨hN, nN, kN⟩ := R_all_pfr h p
    have w40 : w ≤ 40 := by have := ok.2; rw [← row, j_fg_len] at this; exact this
    have D6N : j_ps N x = ps := by rw [← D6]; unfold j_ps; rw [p.1 4474 (by omega) (by omega) (by omega), p.1 4475 (by omega) (by omega) (by omega), p.1 4476 (by omega) (by omega) (by omega)]
    have emN : N 4474 x = (m : Int) := by rw [p.1 4474 (by omega) (by omega) (by omega)]; exact em
    have go : j_q M V a Q (X_border2 V S r d R) := go
    unfold X_border2 at go
    rw [tl, tk, el, ek, hps] at go
    have q3 : ¬ (g_okc R ∧ g_cut (g_cls R) ps ∧ g_okc (g_rawL (g_cls R) ps) ∧ g_okc (g_rawR (g_cls R) ps)) → j_q M V a Q (3, S) := fun c => j_qx (c_if_pos c) go
    have q5 : (g_okc R ∧ g_cut (g_cls R) ps ∧ g_okc (g_rawL (g_cls R) ps) ∧ g_okc (g_rawR (g_cls R) ps)) → w_lost (fun a => (V a).2.2.2.2) S l k (g_cls (g_rawL (g_cls R) ps)) (g_cls (g_rawR (g_cls R) ps)) → j_q M V a Q (5, S) := fun c1 c2 => j_qx ((c_if_neg (fun n => n c1)).trans (c_if_pos c2)) go
    have q0 : (g_okc R ∧ g_cut (g_cls R) ps ∧ g_okc (g_rawL (g_cls R) ps) ∧ g_okc (g_rawR (g_cls R) ps)) → ¬ w_lost (fun a => (V a).2.2.2.2) S l k (g_cls (g_rawL (g_cls R) ps)) (g_cls (g_rawR (g_cls R) ps)) → j_q M V a Q (0, w_fgs (w_fgs S l (g_cls (g_rawL (g_cls R) ps))) k (g_cls (g_rawR (g_cls R) ps))) := fun c1 c2 => j_qx ((c_if_neg (fun n => n c1)).trans (c_if_neg c2)) go
    clear go
    refine m_cuts (f := 3200) (n := w) (x := x) (m := m) (ps := ps) rfl e46 rfl hx (by omega) w40 (by rw [row]; exact HC.1) (by rw [row]; exact HC.2.1) emN (by omega) D6N hpb (fun N2 nl nr c1 c2 c3 p2 e42 e43 eL eR _ => ⟨fun _ => ?_, fun z => absurd z (by decide)⟩) (fun N2 c p2 => ⟨fun z => absurd rfl z, fun _ => ?_⟩)
    · rw [row] at c1 c2 c3 eL eR
      obtain ⟨gL, gR, -⟩ := H_cutok HC c1 hpb c2 c3
      have all : g_okc R ∧ g_cut (g_cls R) ps ∧ g_okc (g_rawL (g_cls R) ps) ∧ g_okc (g_rawR (g_cls R) ps) := ⟨ok, c1, c2, c3⟩
      obtain ⟨hN2, nN2, kN2⟩ := R_all_pfr hN (j_pfr_le p2 (by omega))
      have l42 : nl ≤ 40 := by have := gL.2.2.1; rw [← eL, j_fg_len] at this; exact this
      have r43 : nr ≤ 40 := by have := gR.2.2.1; rw [← eR, j_fg_len] at this; exact this
      have kp := j_keep_trans kN kN2
      refine m_lost (a := l) (b := k) (nl := nl) (nr := nr) hN2 l80 k80 hpb3 e42 e43 (by omega) (by omega) eL eR gL.1 gR.1 gL.2.1 gR.2.1 (fun y => q5 all y N2 hN2.1 hN2.2.2.1 kp) (fun y M1 e1 M2 e2 => ?_)
      refine m_moveFig (nl := nl) (nr := nr) hN2.1 l80 k80 nlk e42 e43 l42 r43 eL eR e1 e2 (fun M' u1 u2 u3 => ?_)
      have R1 := R_fgs (f := g_cls (g_rawL (g_cls R) ps)) hN2.2.2.1 hz hl
      have R2 := R_fgs (f := g_cls (g_rawR (g_cls R) ps)) R1 hz hk
      rw [← u2] at R2
      exact q0 all y M' u1 R2 (j_keep_trans kp (j_keep_of (fun c hc => u3 c (by omega) (by omega) (by omega))))
    · rw [row] at c
      obtain ⟨hN2, nN2, kN2⟩ := R_all_pfr hN (j_pfr_le p2 (by omega))
      exact q3 (fun y => c y.2) N2 hN2.1 hN2.2.2.1 (j_keep_trans kN kN2)
  · obtain ⟨hN, nN, kN⟩ := R_all_pfr h p
    have g3 : j_q M V a Q (3, S) := by
      cases e : g_jraw F G with
      | none => rw [e] at go; exact go
      | some R =>
        rw [e] at go
        have go : j_q M V a Q (X_border2 V S r d R) := go
        unfold X_border2 at go
        exact j_qx (c_if_pos (fun c => no R e c.1)) go
    exact g3 N hN.1 hN.2.2.1 kN
