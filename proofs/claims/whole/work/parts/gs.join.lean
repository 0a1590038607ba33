/-! THE MODEL: JOIN, the whole of it -/
theorem r_mrg_ne {l : List Int} {one other into : Int} (h : l ≠ []) (n1 : into ≠ one) (n2 : into ≠ other) : (r_mrg l one other into).length ≠ 0 := by
  cases l with
  | nil => exact absurd rfl h
  | cons a l =>
    rw [r_mrg_cons n1 n2]
    split <;> rw [List.length_cons] <;> omega
theorem t_mrg_k {one other into day : Int} {s k : Nat} {t : w_T} (hk : k ≠ 2) : (t_mrg one other into day s t).1 k = t.1 k := by
  unfold t_mrg
  split
  · split
    · exact s_fu_ne hk
    · rfl
  · rfl
theorem g_mrg_k {one other into day : Int} {T k : Nat} {t : w_T} (hk : k ≠ 2) : (g_mrg one other into day T t).1 k = t.1 k := by
  have c : ∀ (P : Prop) [Decidable P], (if P then s_fu t.1 2 1 else t.1) k = t.1 k := fun P _ => by
    by_cases h : P
    · rw [if_pos h]; exact s_fu_ne hk
    · rw [if_neg h]
  unfold g_mrg
  by_cases h1 : (T < 400 ∨ 480 ≤ T) ∧ t_thr t day = true
  · rw [if_pos h1]
    by_cases h2 : 240 ≤ T ∧ T < 320
    · rw [if_pos h2]; exact c _
    · rw [if_neg h2]
  · rw [if_neg h1]
theorem R_mrg {V : Nat → v_D} {S : w_S} {N : n_S} {m one other into : Int} (hR : R_S V S N m) (hz : R_z S) (n1 : into ≠ one) (n2 : into ≠ other) (h3 : ∀ i : Nat, (i : Int) < S.1 3 → t_thr (w_t S 3 i) S.2.2.2 = true → (w_t S 3 i).2.2 ≠ []) (hb : ∀ i : Nat, (i : Int) < S.1 5 → t_thr (w_t S 5 i) S.2.2.2 = true → one ∉ (w_t S 5 i).2.1 ∧ other ∉ (w_t S 5 i).2.1) : R_S V (w_map S 2 6 (t_mrg one other into S.2.2.2)) (n_pm N (p_st S.1 7 0) (g_mrg one other into S.2.2.2)) m := by
  refine R_maps hR hz (fun s t => t_mrg_k (by omega)) (fun t => t_mrg_k (by omega)) (fun T t => g_mrg_k (by omega)) (fun s i s2 s6 hi i80 hrt => ?_)
  obtain ⟨r1, r2, r3⟩ := hrt
  have hb5 : s = 5 → t_thr (w_t S s i) S.2.2.2 = true → one ∉ (w_t S s i).2.1 ∧ other ∉ (w_t S s i).2.1 := fun s5 => by subst s5; exact hb i hi
  have h33 : s = 3 → t_thr (w_t S s i) S.2.2.2 = true → (w_t S s i).2.2 ≠ [] := fun s3 => by subst s3; exact h3 i hi
  generalize w_t S s i = x at *
  generalize N.2.1 (80 * s + i) = y at *
  generalize S.2.2.2 = day at *
  have nm : (g_mrg one other into day (80 * s + i) y).1 0 = (t_mrg one other into day s x).1 0 := by rw [g_mrg_k (by omega), t_mrg_k (by omega)]; exact r1
  by_cases tx : t_thr x day = true
  · have ty := r2.trans tx
    have rb := r3 tx
    unfold R_b at rb
    obtain ⟨b1, b2, b3, b4, b5, b6, b7⟩ := rb
    by_cases s3 : s = 3
    · obtain ⟨c1, c2, c3⟩ := b3 s3
      have g3 : g_mrg one other into day (80 * s + i) y = ((if (if into ∈ r_mrg y.2.2 one other into then r_del (r_mrg y.2.1 one other into) into else r_mrg y.2.1 one other into).length = 0 then s_fu y.1 2 1 else y.1), (if into ∈ r_mrg y.2.2 one other into then r_del (r_mrg y.2.1 one other into) into else r_mrg y.2.1 one other into), r_mrg y.2.2 one other into) := by
        unfold g_mrg
        rw [if_pos (show (80 * s + i < 400 ∨ 480 ≤ 80 * s + i) ∧ t_thr y day = true from ⟨by omega, ty⟩), if_pos (show 240 ≤ 80 * s + i ∧ 80 * s + i < 320 by omega)]
      rw [c2, c3] at g3
      have x2 : x.1 2 = 0 := (t_thr_iff.mp tx).1
      have y2 : y.1 2 = 0 := (t_thr_iff.mp ty).1
      have f3 : t_mrg one other into day s x = if into ∈ r_mrg x.2.1 one other into then (s_fu x.1 2 (if (r_del (r_mrg x.2.2 one other into) into).length = 0 then 1 else 0), r_mrg x.2.1 one other into, r_del (r_mrg x.2.2 one other into) into) else (x.1, r_mrg x.2.1 one other into, r_mrg x.2.2 one other into) := by
        unfold t_mrg
        rw [if_pos tx]
        by_cases c : into ∈ r_mrg x.2.1 one other into
        · rw [if_pos ⟨s3, c⟩, if_pos c]
        · rw [if_neg (fun z => c z.2), if_neg c]
      by_cases c : into ∈ r_mrg x.2.1 one other into
      · rw [if_pos c] at g3 f3
        by_cases e : (r_del (r_mrg x.2.2 one other into) into).length = 0
        · rw [if_pos e] at g3 f3
          refine ⟨nm, ?_, fun z => ?_⟩
          · rw [g3, f3]; exact (t_thr_gone rfl).trans (t_thr_gone rfl).symm
          · rw [f3, t_thr_gone rfl] at z; cases z
        · rw [if_neg e] at g3 f3
          have fx : s_fu x.1 2 0 = x.1 := by
            funext j
            unfold s_fu
            split
            · next h => rw [h, x2]
            · rfl
          rw [fx] at f3
          rw [g3, f3]
          refine ⟨r1, r2, fun _ => ?_⟩
          exact ⟨b1, b2, fun _ => ⟨c1, rfl, rfl⟩, fun z => absurd s3 z, b5, b6, b7⟩
      · rw [if_neg c, if_neg (r_mrg_ne (h33 s3 tx) n1 n2)] at g3
        rw [if_neg c] at f3
        rw [g3, f3]
        refine ⟨r1, r2, fun _ => ?_⟩
        exact ⟨b1, b2, fun _ => ⟨c1, rfl, rfl⟩, fun z => absurd s3 z, b5, b6, b7⟩
    · obtain ⟨c1, c2, c3⟩ := b4 s3
      have f3 : t_mrg one other into day s x = (x.1, r_mrg x.2.1 one other into, x.2.2) := by
        unfold t_mrg
        rw [if_pos tx, if_neg (fun z => s3 z.1), c3, show r_mrg [] one other into = [] from rfl]
      by_cases s5 : s = 5
      · have g3 : g_mrg one other into day (80 * s + i) y = y := by
          unfold g_mrg
          exact if_neg (fun c => by have := c.1; omega)
        rw [r_mrg_id (hb5 s5 tx).1 (hb5 s5 tx).2] at f3
        rw [g3, f3]
        exact ⟨r1, r2, r3⟩
      · have g3 : g_mrg one other into day (80 * s + i) y = (y.1, r_mrg y.2.1 one other into, y.2.2) := by
          unfold g_mrg
          rw [if_pos (show (80 * s + i < 400 ∨ 480 ≤ 80 * s + i) ∧ t_thr y day = true from ⟨by omega, ty⟩), if_neg (show ¬ (240 ≤ 80 * s + i ∧ 80 * s + i < 320) by omega)]
        rw [g3, f3, c1]
        exact ⟨r1, r2, fun _ => ⟨b1, b2, fun z => absurd z s3, fun _ => ⟨rfl, c2, c3⟩, b5, b6, b7⟩⟩
  · have tx : t_thr x day = false := by
      cases e : t_thr x day
      · rfl
      · exact absurd e tx
    have ty : t_thr y day = false := r2.trans tx
    have f3 : t_mrg one other into day s x = x := by unfold t_mrg; rw [tx]; rfl
    have g3 : g_mrg one other into day (80 * s + i) y = y := by
      unfold g_mrg
      exact if_neg (fun c => by rw [ty] at c; cases c.2)
    rw [g3, f3]
    exact ⟨r1, r2, r3⟩
theorem m_join {M : e_M} {V : Nat → v_D} {S : w_S} {a : Int} {d x : Nat} {r : Nat → Int} {Q : Int → e_M → Prop} (h : R_all M V S a) (hm : m_mo M) (h5g : ∀ i : Nat, (i : Int) < S.1 5 → 0 ≤ (w_t S 5 i).1 5) (hH : H_fig S) (hon : ∀ i : Nat, (i : Int) < S.1 0 → ((w_l S i).2.2.2.map (fun q => q.1)).Nodup) (hnd : ∀ s i : Nat, 2 ≤ s → s ≤ 6 → (i : Int) < S.1 s → (w_t S s i).2.1.Nodup ∧ (w_t S s i).2.2.Nodup) (h3 : ∀ i : Nat, (i : Int) < S.1 3 → t_thr (w_t S 3 i) S.2.2.2 = true → (w_t S 3 i).2.2 ≠ []) (hx : x < 152) (hD : D_at M x (V d)) (hv : v_ok (V d)) (h207 : (V d).1 3 = 207) (i0 : M 4520 0 = r 0) (i1 : M 4520 1 = r 1) (h0 : 0 ≤ r 0 ∧ r 0 < S.1 0) (h1 : 0 ≤ r 1 ∧ r 1 < S.1 0) (t0 : w_thr S 0 (r 0).toNat = true) (t1 : w_thr S 0 (r 1).toNat = true) (hq : j_q M V a Q (X_join V S r d)) : WX12_join x M Q := by
  obtain ⟨hn, hc, hR, hz, hg, hd⟩ := id h
  obtain ⟨l, el⟩ : ∃ l : Nat, r 0 = l := ⟨(r 0).toNat, by omega⟩
  obtain ⟨k, ek⟩ : ∃ k : Nat, r 1 = k := ⟨(r 1).toNat, by omega⟩
  have tl : (r 0).toNat = l := by omega
  have tk : (r 1).toNat = k := by omega
  rw [tl] at t0
  rw [tk] at t1
  have hl : (l : Int) < S.1 0 := by omega
  have hk : (k : Int) < S.1 0 := by omega
  have l80 := R_mx hz (show 0 < 7 by omega) hl
  have k80 := R_mx hz (show 0 < 7 by omega) hk
  have z0 := z80_of hz 0 (by omega)
  have told : (V d).1 7 = 3 := by
    have hl := hv.2.1.1
    rw [h207] at hl
    exact hl
  have HF : H_l (w_l S l).2.1 := hH.2.1 l hl
  have HG : H_l (w_l S k).2.1 := hH.2.1 k hk
  obtain ⟨eF, -, oF⟩ := R_lo hR hz hl
  obtain ⟨eG, -, oG⟩ := R_lo hR hz hk
  obtain ⟨-, D2, -, -, -⟩ := hD
  have n2 := D2 2 (by omega)
  obtain ⟨n, en⟩ : ∃ n : Nat, M 4496 l = n := ⟨(M 4496 l).toNat, by have := (hn.2.2.1 l l80).1; omega⟩
  obtain ⟨g, eg⟩ : ∃ g : Nat, M 4496 k = g := ⟨(M 4496 k).toNat, by have := (hn.2.2.1 k k80).1; omega⟩
  have n40 : n ≤ 40 := by have := (hn.2.2.1 l l80).1; omega
  have g40 : g ≤ 40 := by have := (hn.2.2.1 k k80).1; omega
  rw [en] at eF
  rw [eg] at eG
  have dj : l ≠ k → gt_dj (w_l S l).2.1 (w_l S k).2.1 := fun ne => H_dj hH hl hk (H_thr t0) (H_thr t1) ne
  unfold X_join at hq
  rw [tl, tk, el, ek] at hq
  have q1 : (l : Int) = k → j_q M V a Q (1, S) := fun g => j_qx (c_if_pos g) hq
  have q2 : ¬ (l : Int) = k → ¬ (w_oab S l ∧ w_oab S k) → j_q M V a Q (2, S) := fun g1 g2 => j_qx ((c_if_neg g1).trans (c_if_pos g2)) hq
  have q6 : ¬ (l : Int) = k → (w_oab S l ∧ w_oab S k) → ¬ o_same (w_l S l).2.2.2 (w_l S k).2.2.2 → j_q M V a Q (6, S) := fun g1 g2 g3 => j_qx ((c_if_neg g1).trans ((c_if_neg (fun n => n g2)).trans (c_if_pos g3))) hq
  have q4 : ¬ (l : Int) = k → (w_oab S l ∧ w_oab S k) → o_same (w_l S l).2.2.2 (w_l S k).2.2.2 → (w_bar S l (-1) ∨ w_bar S k (-1)) → j_q M V a Q (4, S) := fun g1 g2 g3 g4 => j_qx ((c_if_neg g1).trans ((c_if_neg (fun n => n g2)).trans ((c_if_neg (fun n => n g3)).trans (c_if_pos g4)))) hq
  have q5 : ¬ (l : Int) = k → (w_oab S l ∧ w_oab S k) → o_same (w_l S l).2.2.2 (w_l S k).2.2.2 → ¬ (w_bar S l (-1) ∨ w_bar S k (-1)) → ¬ ((w_l S l).2.2.1 = (w_l S k).2.2.1 ∧ w_both S 4 l k ∧ w_both S 6 l k) → j_q M V a Q (5, S) := fun g1 g2 g3 g4 g5 => j_qx ((c_if_neg g1).trans ((c_if_neg (fun n => n g2)).trans ((c_if_neg (fun n => n g3)).trans ((c_if_neg g4).trans (c_if_pos g5))))) hq
  have qq : ¬ (l : Int) = k → (w_oab S l ∧ w_oab S k) → o_same (w_l S l).2.2.2 (w_l S k).2.2.2 → ¬ (w_bar S l (-1) ∨ w_bar S k (-1)) → ((w_l S l).2.2.1 = (w_l S k).2.2.1 ∧ w_both S 4 l k ∧ w_both S 6 l k) → j_q M V a Q (X_join1 V S r d (g_jraw (w_l S l).2.1 (w_l S k).2.1)) := fun g1 g2 g3 g4 g5 => j_qx ((c_if_neg g1).trans ((c_if_neg (fun n => n g2)).trans ((c_if_neg (fun n => n g3)).trans ((c_if_neg g4).trans (c_if_neg (fun n => n g5)))))) hq
  clear hq
  generalize hFF : (w_l S l).2.1 = F at *
  generalize hGG : (w_l S k).2.1 = G at *
  unfold WX12_join VX12_join
  rw [show ((0 : Int).toNat) = 0 from rfl, show ((1 : Int).toNat) = 1 from rfl, i0, i1, el, ek]
  rw [s_w (x := 40 * (l : Int)) (by omega) (by omega), s_w (x := 40 * (k : Int)) (by omega) (by omega), s_w (x := 10 * (x : Int)) (by omega) (by omega), s_w (x := 10 * (x : Int) + 2) (by omega) (by omega), show (10 * (x : Int) + 2).toNat = 10 * x + 2 by omega, show ((l : Nat) : Int).toNat = l by omega, show ((k : Nat) : Int).toNat = k by omega]
  refine ⟨by omega, by omega, fun ne => ?_, fun e => j_q_no h (q1 e)⟩
  refine m_areAble h hl (fun ab => ⟨fun z => absurd z (by decide), fun _ => ?_⟩) (fun ab => ⟨fun _ => j_q_no h (q2 ne (fun c => ab c.1)), fun z => absurd rfl z⟩)
  refine m_areAble h hk (fun ab2 => ⟨fun _ => ?_, fun z => absurd z (by decide)⟩) (fun ab2 => ⟨fun z => absurd rfl z, fun _ => j_q_no h (q2 ne (fun c => ab2 c.2))⟩)
  refine m_areAlike hn l80 k80 (by rw [oG]; exact hon k hk) (fun al => ⟨fun _ => ?_, fun z => absurd z (by decide)⟩) (fun al => ⟨fun z => absurd rfl z, fun _ => j_q_no h (q6 ne ⟨ab, ab2⟩ (by rw [← oF, ← oG]; exact al))⟩)
  rw [oF, oG] at al
  refine m_isBarred h (fun br => ⟨fun _ => j_q_no h (q4 ne ⟨ab, ab2⟩ al (Or.inl br)), fun z => absurd z (by decide)⟩) (fun br => ⟨fun z => absurd rfl z, fun _ => ?_⟩)
  refine m_isBarred h (fun br2 => ⟨fun z => absurd z (by decide), fun _ => j_q_no h (q4 ne ⟨ab, ab2⟩ al (Or.inr br2))⟩) (fun br2 => ⟨fun _ => ?_, fun z => absurd rfl z⟩)
  have nbr : ¬ (w_bar S l (-1) ∨ w_bar S k (-1)) := fun c => c.elim br br2
  refine m_bearAlike h hl hk (fun be => ⟨fun _ => ⟨by omega, by omega, ?_⟩, fun z => absurd z (by decide)⟩) (fun be => ⟨fun z => absurd rfl z, fun _ => j_q_no h (q5 ne ⟨ab, ab2⟩ al nbr be)⟩)
  have go := qq ne ⟨ab, ab2⟩ al nbr be
  clear q1 q2 q4 q5 q6 qq
  have nlk : l ≠ k := fun e => ne (by rw [e])
  have pr := H_pr HF.1 HG.1 HF.2.2.1 HG.2.2.1 (dj nlk)
  refine m_joins (f := 40 * l) (n := n) (g := 40 * k) (m := g) (F := F) (G := G) (by omega) en (by omega) eg (by omega) (by omega) eF eG HF.1 HG.1 HF.2.1 HG.2.1 HF.2.2.1 HG.2.2.1 HF.2.2.2 HG.2.2.2 pr (fun R N w hR' ok p e46 row => ⟨fun _ => ?_, fun z => absurd z (by decide)⟩) (fun N no p => ⟨fun z => absurd rfl z, fun _ => ?_⟩)
  · -- they join
    rw [hR'] at go
    obtain ⟨fR, bR, -⟩ := H_join HF HG pr hR'
    have HC := H_cls fR bR ok.2
    obtain ⟨hN, nN, kN⟩ := R_all_pfr h p
    have w40 : w ≤ 40 := by have := ok.2; rw [← row, j_fg_len] at this; exact this
    have go : j_q M V a Q (X_join2 V S r d R) := go
    unfold X_join2 at go
    rw [tl, tk, el, ek] at go
    have q7 : 80 ≤ S.1 0 → j_q M V a Q (7, S) := fun c => j_qx ((c_if_neg (fun n => n ok)).trans (c_if_pos c)) go
    have q0 : ¬ 80 ≤ S.1 0 → j_q M V a Q _ := fun c => j_qx ((c_if_neg (fun n => n ok)).trans (c_if_neg c)) go
    clear go
    have mN : m_mo N := fun s hs => by rw [p.1 4482 (by omega) (by omega) (by omega)]; exact hm s hs
    have many : N 4483 0 = S.1 0 := R_many hN.2.2.1 (by omega)
    refine m_full (s := 0) rfl mN hN.1 (by omega) (by omega) (fun le => ⟨fun _ => ⟨by omega, ?_⟩, fun z => absurd rfl z⟩) (fun gt => ⟨fun z => absurd z (by decide), fun _ => ?_⟩)
    · have le : S.1 0 + 1 ≤ 80 := by rw [many] at le; exact le
      have go := q0 (by omega)
      clear q0 q7
      have tnN := R_turn hN.2.2.1 hN.2.2.2.1
      have n467 : N 4467 = M 4467 := p.1 4467 (by omega) (by omega) (by omega)
      rw [n467, n2]
      refine m_newLot (old := l) (f := 3200) (n := w) rfl rfl e46 hN.1 (by omega) tnN (by rw [many]; exact hl) (by omega) (by omega) w40 row (fun M11 k11 s11 f11 => ?_)
      rw [many]
      have R11 := R_nl (name := (V d).2.1 2) (fig := g_cls R) hN.2.2.1 hz (by omega) hl
      rw [← s11] at R11
      have z11 := R_z_addL (x := l_mk ((V d).2.1 2) (w_l S l) (g_cls R)) hz (by omega)
      refine ⟨⟨by omega, Or.inr rfl⟩, fun M12 e12 => ⟨⟨by omega, Or.inr rfl⟩, fun M13 e13 => ?_⟩⟩
      obtain ⟨k12, s12⟩ := N_put2 (M := M11) (t := l) (v := 1) k11 (by omega)
      rw [← e12] at k12 s12
      have R12 := R_lgone R11 z11 (l := l) (by rw [w_z_addL, if_pos rfl]; omega)
      rw [← s12] at R12
      have z12 : R_z (w_lpt (w_addL S (l_mk ((V d).2.1 2) (w_l S l) (g_cls R))) l 1 1) := z11
      obtain ⟨k13, s13⟩ := N_put2 (M := M12) (t := k) (v := 1) k12 (by omega)
      rw [← e13] at k13 s13
      have wlz : ∀ (X : w_S) (l k : Nat) (v : Int), (w_lpt X l k v).1 = X.1 := fun _ _ _ _ => rfl
      have R13 := R_lgone R12 z12 (l := k) (by rw [wlz, w_z_addL, if_pos rfl]; omega)
      rw [← s13] at R13
      generalize hS2 : w_lpt (w_lpt (w_addL S (l_mk ((V d).2.1 2) (w_l S l) (g_cls R))) l 1 1) k 1 1 = S2 at *
      have sz : ∀ s, s ≠ 0 → S2.1 s = S.1 s := fun s hs => by
        rw [← hS2, wlz, wlz, w_z_addL, if_neg hs]
      have sT : ∀ s i, w_t S2 s i = w_t S s i := fun s i => by rw [← hS2]; rfl
      have sd : S2.2.2.2 = S.2.2.2 := by rw [← hS2]; rfl
      have z2 : R_z S2 := by rw [← hS2]; exact z11
      have day13 : M13 4456 86 = S2.2.2.2 := R_day R13
      have kp13 : j_keep M M13 := j_keep_trans kN (j_keep_trans (j_nfr_keep f11) (j_keep_trans (show j_keep M11 M12 by rw [e12]; exact j_keep_cell (by omega)) (show j_keep M12 M13 by rw [e13]; exact j_keep_cell (by omega))))
      have ni1 : S.1 0 ≠ (l : Int) := by omega
      have ni2 : S.1 0 ≠ (k : Int) := by omega
      refine m_mrg_things (N0 := n_of M13) (z := S2.1) (day := S2.2.2.2) k13 rfl day13 (z80_of z2) (fun s hs => R_size R13 hs) ne ni1 ni2 (fun s i s2 s6 s5 hi t => ?_) (fun M' v1 v2 v3 => ?_)
      · have rt := R13.2.2.2.2.1 s i s2 s6 hi
        have tx : t_thr (w_t S2 s i) S2.2.2.2 = true := by rw [← rt.2.1]; exact t
        have rb := rt.2.2 tx
        have hi' : (i : Int) < S.1 s := by rw [← sz s (by omega)]; exact hi
        obtain ⟨d1, d2⟩ := hnd s i s2 s6 hi'
        rw [sT] at rb
        by_cases s3 : s = 3
        · obtain ⟨-, c2, c3⟩ := rb.2.2.1 s3
          rw [c2, c3]; exact ⟨d2, d1⟩
        · obtain ⟨c1, c2, -⟩ := rb.2.2.2.1 s3
          rw [c1, c2]; exact ⟨d1, List.nodup_nil⟩
      · have nob : ∀ {o : Nat}, ¬ w_bar S o (-1) → ∀ i : Nat, (i : Int) < S2.1 5 → t_thr (w_t S2 5 i) S2.2.2.2 = true → (o : Int) ∉ (w_t S2 5 i).2.1 := fun {o} nb i hi t mem => nb ⟨i, by show (i : Int) < S.1 5; rw [← sz 5 (by omega)]; exact hi, by rw [w_thr_t (by omega), ← sT, ← sd]; exact t, by rw [← sT]; exact mem, by have := h5g i (by rw [← sz 5 (by omega)]; exact hi); omega⟩
        have RR := R_mrg (one := (l : Int)) (other := (k : Int)) (into := S.1 0) R13 z2 ni1 ni2 (fun i hi t => by rw [sT] at t ⊢; rw [sd] at t; exact h3 i (by rw [← sz 3 (by omega)]; exact hi) t) (fun i hi t => ⟨nob br i hi t, nob br2 i hi t⟩)
        rw [← v2, sd] at RR
        exact go M' v1 RR (j_keep_trans kp13 (j_tfr_keep v3))
    · have gt : 80 < S.1 0 + 1 := by rw [many] at gt; exact gt
      exact q7 (by omega) N hN.1 hN.2.2.1 kN
  · obtain ⟨hN, nN, kN⟩ := R_all_pfr h p
    have g3 : j_q M V a Q (3, S) := by
      cases e : g_jraw F G with
      | none => rw [e] at go; exact go
      | some R =>
        rw [e] at go
        have go : j_q M V a Q (X_join2 V S r d R) := go
        unfold X_join2 at go
        exact j_qx (c_if_pos (no R e)) go
    exact g3 N hN.1 hN.2.2.1 kN
